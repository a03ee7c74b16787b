/-! ===== what is read without a fault is well made ===== -/
section WfP
variable {L rc : Nat} {wd : Nat → Nat} {R : Nat → Mc}
theorem adN1 {w a : Nat} : adN (some w, fun _ => 0, 0, 0) a = (some w, tfAB a none, 0, nsAB a none) := by
  have h1 : (fun k => if k = a then 0 + 1 else 0) = tfAB a none := by
    funext k
    unfold tfAB
    by_cases c : k = a <;> simp [c]
  show (some w, (fun k => if k = a then 0 + 1 else 0), 0, 0 ||| 2 ^ a) = _
  rw [h1, Nat.zero_or]
  rfl
theorem adN2 {w a c v : Nat} : adN (some w, tfAB a none, v, nsAB a none) c = (some w, tfAB a (some c), v, nsAB a (some c)) := by
  have h1 : (fun k => if k = c then tfAB a none k + 1 else tfAB a none k) = tfAB a (some c) := by
    funext k
    unfold tfAB
    rw [if_neg (show ¬ (none = some k) by simp)]
    by_cases e : k = c
    · rw [if_pos e, if_pos (show some c = some k by rw [e])]
    · rw [if_neg e, if_neg (show ¬ (some c = some k) by simp; omega)]
  show (some w, (fun k => if k = c then tfAB a none k + 1 else tfAB a none k), v, 2 ^ a ||| 2 ^ c) = _
  rw [h1]
  rfl
theorem blO_some {o : Option Nat} {p : Nat} : blO o p ≠ none := by
  cases o <;> (intro h; cases h)
theorem tEz_sh {w p : Nat} {more : Bool} {S S' : SD} {l l' : List Tk} {o o' : Option Nat} {nm nm' : Nat} (e : tEz L rc wd w p more S l o nm = .inr (S', l', o', nm')) : o' = none → o = none ∧ w < rc ∧ (more = true → wd w ≤ 6) ∧ nm' = nm ||| 2 ^ w := by
  unfold tEz at e
  by_cases c : kdT l = 14
  · rw [if_pos c] at e
    by_cases c2 : rc ≤ w ∨ (more = true ∧ 6 < wd w)
    · rw [if_pos c2] at e
      cases e
      exact fun h => absurd h blO_some
    · rw [if_neg c2] at e
      cases e
      exact fun h => ⟨h, by omega, fun hm => by
        rcases Nat.lt_or_ge 6 (wd w) with x | x
        · exact absurd (Or.inr ⟨hm, x⟩) c2
        · exact x, rfl⟩
  · rw [if_neg c] at e
    cases e
/-- what an entry is -/
theorem tE_sh {S' : SD} {l l' : List Tk} {o o' : Option Nat} {nm nm' : Nat} (h : GdT L l) (e : tEn L rc wd l o nm = .inr (S', l', o', nm')) :
    ∃ w a mb v, w < 10 ∧ a < 8 ∧ (∀ c, mb = some c → c < 8) ∧ v < 100 ∧ (mb ≠ none → v = 0) ∧ S' = (some w, tfAB a mb, v, nsAB a mb) ∧ (o' = none → o = none ∧ w < rc ∧ ((mb = none ∧ v = 0) ∨ wd w ≤ 6) ∧ v ≤ 3 ∧ nm' = nm ||| 2 ^ w) := by
  unfold tEn at e
  by_cases c1 : kdT l = 4
  · rw [if_pos c1] at e
    obtain ⟨a1, -, -, a4⟩ := gd_tail h (by omega)
    have hw : woT l < 10 := a4.2.2.2.2 c1
    by_cases c2 : kdT l.tail = 13
    · rw [if_pos c2] at e
      obtain ⟨b1, -⟩ := gd_tail a1 (by omega)
      by_cases c3 : kdT l.tail.tail = 3
      · rw [if_pos c3] at e
        obtain ⟨d1, -, -, d4⟩ := gd_tail b1 (by omega)
        have ha : woT l.tail.tail < 8 := d4.2.2.2.1 c3
        by_cases c4 : kdT l.tail.tail.tail = 15
        · rw [if_pos c4] at e
          obtain ⟨f1, -⟩ := gd_tail d1 (by omega)
          rw [adN1] at e
          cases hT : tT L 3 (some (woT l), tfAB (woT l.tail.tail) none, 0, nsAB (woT l.tail.tail) none) l.tail.tail.tail.tail o with
          | inl p => rw [hT] at e; cases e
          | inr x =>
            obtain ⟨S1, l1, o1⟩ := x
            rw [hT] at e
            simp only at e
            obtain ⟨g1, -, g2, -, -⟩ := tT_pg f1 hT
            obtain ⟨-, -, i1, -⟩ := tEz_pg g2 e
            have i2 := tEz_sh e
            unfold tT at hT
            by_cases c5 : kdT l.tail.tail.tail.tail = 2
            · rw [if_pos c5] at hT
              have hv : woT l.tail.tail.tail.tail < 100 := (gd_tail f1 (by omega)).2.2.2.2.2.1 c5
              cases hT
              refine ⟨woT l, woT l.tail.tail, none, 0 + woT l.tail.tail.tail.tail, hw, ha, fun c h => (by cases h), by omega, fun h => absurd rfl h, i1, fun ho => ?_⟩
              obtain ⟨j1, j2, j3, j4⟩ := i2 ho
              by_cases c6 : 0 + woT l.tail.tail.tail.tail ≤ 3
              · have c6' : s_n ((some (woT l), tfAB (woT l.tail.tail) none, 0, nsAB (woT l.tail.tail) none) : SD) + woT l.tail.tail.tail.tail ≤ 3 := c6
                rw [if_pos c6'] at j1
                exact ⟨j1, j2, Or.inr (j3 rfl), c6, j4⟩
              · have c6' : ¬ s_n ((some (woT l), tfAB (woT l.tail.tail) none, 0, nsAB (woT l.tail.tail) none) : SD) + woT l.tail.tail.tail.tail ≤ 3 := c6
                rw [if_neg c6'] at j1
                exact absurd j1 blO_some
            · rw [if_neg c5] at hT
              by_cases c6 : kdT l.tail.tail.tail.tail = 3
              · rw [if_pos c6, adN2] at hT
                have hc : woT l.tail.tail.tail.tail < 8 := (gd_tail f1 (by omega)).2.2.2.2.2.2.1 c6
                cases hT
                refine ⟨woT l, woT l.tail.tail, some (woT l.tail.tail.tail.tail), 0, hw, ha, fun c h => (by cases h; exact hc), by omega, fun _ => rfl, i1, fun ho => ?_⟩
                obtain ⟨j1, j2, j3, j4⟩ := i2 ho
                exact ⟨j1, j2, Or.inr (j3 rfl), by omega, j4⟩
              · rw [if_neg c6] at hT; cases hT
        · rw [if_neg c4, adN1] at e
          obtain ⟨-, -, i1, -⟩ := tEz_pg d1 e
          have i2 := tEz_sh e
          refine ⟨woT l, woT l.tail.tail, none, 0, hw, ha, fun c h => (by cases h), by omega, fun h => absurd rfl h, i1, fun ho => ?_⟩
          obtain ⟨j1, j2, j3, j4⟩ := i2 ho
          exact ⟨j1, j2, Or.inl ⟨rfl, rfl⟩, by omega, j4⟩
      · rw [if_neg c3] at e; cases e
    · rw [if_neg c2] at e; cases e
  · rw [if_neg c1] at e; cases e
theorem tE_SWf {w a v : Nat} {mb : Option Nat} (ha : a < 8) (hmb : ∀ c, mb = some c → c < 8) (hv : mb ≠ none → v = 0) (hwd : wd w = m_n (R w)) (h1 : w < rc) (h2 : (mb = none ∧ v = 0) ∨ wd w ≤ 6) (h3 : v ≤ 3) : SWf R rc (some w, tfAB a mb, v, nsAB a mb) := by
  intro r hr
  cases hr
  have k1 := nsAB_lt ha hmb
  cases mb with
  | none =>
    have e1 : sumT (tfAB a none) 8 = 1 := sumT_AB1 a ha
    have e2 := (ns_lt a ha a ha).2.2.2
    refine ⟨h1, k1, ?_, ?_, ?_, h3, fun e => ?_, ?_⟩
    · show 1 ≤ sumT (tfAB a none) 8; omega
    · show sumT (tfAB a none) 8 ≤ 2; omega
    · show pc (2 ^ a) ≤ sumT (tfAB a none) 8; omega
    · have : sumT (tfAB a none) 8 = 2 := e; omega
    · rcases h2 with x | x
      · exact Or.inl ⟨e1, x.2⟩
      · exact Or.inr (by rw [← hwd]; exact x)
  | some c =>
    have hc := hmb c rfl
    have e1 : sumT (tfAB a (some c)) 8 = 2 := sumT_AB2 a ha c hc
    have e2 := (ns_lt a ha c hc).2.2.1
    refine ⟨h1, k1, ?_, ?_, ?_, h3, fun _ => hv (by simp), Or.inr ?_⟩
    · show 1 ≤ sumT (tfAB a (some c)) 8; omega
    · show sumT (tfAB a (some c)) 8 ≤ 2; omega
    · show pc (2 ^ a ||| 2 ^ c) ≤ sumT (tfAB a (some c)) 8; omega
    · rcases h2 with x | x
      · cases x.1
      · rw [← hwd]; exact x
theorem sumT_ad {f : Nat → Nat} {n : Nat} : ∀ i, sumT (fun k => if k = n then f k + 1 else f k) i ≤ sumT f i + (if n < i then 1 else 0)
  | 0 => Nat.le_refl _
  | i + 1 => by
    have ih := sumT_ad (f := f) (n := n) i
    show sumT _ i + (if i = n then f i + 1 else f i) ≤ sumT f i + f i + (if n < i + 1 then 1 else 0)
    by_cases c : i = n
    · rw [if_pos c, if_pos (by omega)]
      rw [if_neg (by omega)] at ih
      omega
    · rw [if_neg c]
      by_cases c2 : n < i
      · rw [if_pos (by omega)]
        rw [if_pos c2] at ih
        omega
      · rw [if_neg (by omega)]
        rw [if_neg c2] at ih
        omega
theorem sumT_at {f : Nat → Nat} {n : Nat} : ∀ i, n < i → f n ≤ sumT f i
  | 0, h => by omega
  | i + 1, h => by
    show f n ≤ sumT f i + f i
    by_cases c : n = i
    · rw [c]; omega
    · have := sumT_at (f := f) (n := n) i (by omega)
      omega
theorem tT_wf {S S' : SD} {l l' : List Tk} {o o' : Option Nat} (h : GdT L l) (e : tT L 99 S l o = .inr (S', l', o')) : sumT (s_t S') 8 ≤ sumT (s_t S) 8 + 1 ∧ (o' = none → o = none ∧ (s_n S ≤ 99 → s_n S' ≤ 99)) := by
  unfold tT at e
  by_cases c : kdT l = 2
  · rw [if_pos c] at e
    cases e
    refine ⟨Nat.le_succ _, fun ho => ?_⟩
    by_cases c2 : s_n S + woT l ≤ 99
    · rw [if_pos c2] at ho
      exact ⟨ho, fun _ => c2⟩
    · rw [if_neg c2] at ho
      exact absurd ho blO_some
  · rw [if_neg c] at e
    by_cases c2 : kdT l = 3
    · rw [if_pos c2] at e
      cases e
      have := sumT_ad (f := s_t S) (n := woT l) 8
      refine ⟨Nat.le_trans this (Nat.add_le_add_left ?_ _), fun ho => ⟨ho, fun x => x⟩⟩
      split <;> omega
    · rw [if_neg c2] at e; cases e
theorem tS_wf : ∀ n {S S' : SD} {l l' : List Tk} {o o' : Option Nat}, GdT L l → tS L n S l o = .inr (S', l', o') → sumT (s_t S') 8 + l'.length ≤ sumT (s_t S) 8 + l.length ∧ (o' = none → o = none ∧ (s_n S ≤ 99 → s_n S' ≤ 99))
  | 0, S, S', l, l', o, o', h, e => by cases e
  | n + 1, S, S', l, l', o, o', h, e => by
    unfold tS at e
    cases hT : tT L 99 S l o with
    | inl p => rw [hT] at e; cases e
    | inr x =>
      obtain ⟨S1, l1, o1⟩ := x
      rw [hT] at e
      obtain ⟨-, -, g1, g2, g3⟩ := tT_pg h hT
      obtain ⟨j1, j2⟩ := tT_wf h hT
      simp only at e
      by_cases c : kdT l1 = 15
      · rw [if_pos c] at e
        obtain ⟨k1, k2, k3, -⟩ := gd_tail g1 (by omega)
        obtain ⟨i1, i2⟩ := tS_wf n k1 e
        exact ⟨by omega, fun ho => ⟨(j2 (i2 ho).1).1, fun x => (i2 ho).2 ((j2 (i2 ho).1).2 x)⟩⟩
      · rw [if_neg c] at e
        cases e
        exact ⟨by omega, j2⟩
theorem lowS_ge {f g : Nat → Nat} : ∀ i, - (sumT f i : Int) ≤ lowS (fun n => (f n : Int) - (g n : Int)) i ∧ higS (fun n => (f n : Int) - (g n : Int)) i ≤ (sumT g i : Int)
  | 0 => ⟨Int.le_refl _, Int.le_refl _⟩
  | i + 1 => by
    obtain ⟨h1, h2⟩ := lowS_ge (f := f) (g := g) i
    have e1 : lowS (fun n => (f n : Int) - (g n : Int)) (i + 1) = lowS (fun n => (f n : Int) - (g n : Int)) i - max ((f i : Int) - (g i : Int)) 0 := rfl
    have e2 : higS (fun n => (f n : Int) - (g n : Int)) (i + 1) = higS (fun n => (f n : Int) - (g n : Int)) i - min ((f i : Int) - (g i : Int)) 0 := rfl
    have e3 : sumT f (i + 1) = sumT f i + f i := rfl
    have e4 : sumT g (i + 1) = sumT g i + g i := rfl
    rw [e1, e2, e3, e4]
    omega
/-- so far it is well made -/
def WfS (L rc : Nat) (R : Nat → Mc) (s : PSt) : Prop := (∀ j, j < q_c s → p_p (q_D s j) ≤ L ∧ p_s (q_D s j) < 256) ∧ (q_o s = none → (∀ j, j < q_c s → pc (p_s (q_D s j)) ≤ 3 → PWf R rc (q_D s) j) ∧ q_m s = rowsOf (q_D s) (q_c s))
theorem PWf.pu {D : Nat → PD} {P : PD} {c j : Nat} (h : PWf R rc D j) (hj : j < c) : PWf R rc (puD D c P) j := by
  obtain ⟨h1, h2, h3, h4, h5, h6, h7, h8, h9⟩ := h
  have e : ∀ i, i < c → puD D c P i = D i := fun i hi => if_neg (by omega)
  unfold PWf
  rw [e j hj]
  refine ⟨h1, h2, h3, h4, h5, h6, fun x => ?_, fun x => ?_, fun x => ?_⟩
  · rw [e _ (Nat.lt_trans (h6 (by omega)) hj)]; exact h7 x
  · rw [e _ (Nat.lt_trans (h6 (by omega)) hj), e _ (Nat.lt_trans (h8 x).1 hj)]; exact h8 x
  · rw [e _ (Nat.lt_trans (h6 (by omega)) hj)]; exact h9 x
theorem rows_pu {D : Nat → PD} {P : PD} {c : Nat} : ∀ i, i ≤ c → rowsOf (puD D c P) i = rowsOf D i
  | 0, _ => rfl
  | i + 1, h => by
    have e : puD D c P i = D i := if_neg (by omega)
    show rowsOf (puD D c P) i ||| _ = rowsOf D i ||| _
    rw [rows_pu i (by omega), e]
def rowB (P : PD) : Nat := if p_f P = 1 then rbit (s_r (p_a P)) ||| rbit (s_r (p_b P)) else 0
theorem WfS.en {s s1 : PSt} {P : PD} (h : WfS L rc R s) (hc : q_c s1 = q_c s) (hD : q_D s1 = q_D s) (ho : q_o s1 = none → q_o s = none ∧ q_m s1 = q_m s ||| rowB P) (h1 : p_p P ≤ L) (h2 : p_s P < 256) (h3 : q_o s1 = none → pc (p_s P) ≤ 3 → PWf R rc (puD (q_D s) (q_c s) P) (q_c s)) : WfS L rc R (enP s1 P) := by
  have e1 : q_c (enP s1 P) = q_c s + 1 := by show q_c s1 + 1 = _; rw [hc]
  have e2 : q_D (enP s1 P) = puD (q_D s) (q_c s) P := by show puD (q_D s1) (q_c s1) P = _; rw [hc, hD]
  have eP : puD (q_D s) (q_c s) P (q_c s) = P := if_pos rfl
  have eo : ∀ j, j < q_c s → puD (q_D s) (q_c s) P j = q_D s j := fun j hj => if_neg (by omega)
  refine ⟨fun j hj => ?_, fun hn => ⟨fun j hj hp => ?_, ?_⟩⟩
  · rw [e1] at hj
    rw [e2]
    by_cases c : j = q_c s
    · rw [c, eP]; exact ⟨h1, h2⟩
    · rw [eo j (by omega)]; exact h.1 j (by omega)
  · rw [e1] at hj
    rw [e2] at hp ⊢
    have hn' : q_o s1 = none := hn
    by_cases c : j = q_c s
    · rw [c] at hp ⊢
      rw [eP] at hp
      exact h3 hn' hp
    · rw [eo j (by omega)] at hp
      exact ((h.2 (ho hn').1).1 j (by omega) hp).pu (by omega)
  · have hn' : q_o s1 = none := hn
    rw [e1, e2]
    show q_m s1 = rowsOf _ (q_c s) ||| (if p_f (puD (q_D s) (q_c s) P (q_c s)) = 1 then _ else _)
    rw [rows_pu _ (Nat.le_refl _), eP, (ho hn').2, (h.2 (ho hn').1).2]
    rfl
theorem WfS.stl {s s' : PSt} (h : WfS L rc R s) (hc : q_c s' = q_c s) (hD : q_D s' = q_D s) (ho : q_o s' = none → q_o s = none) (hm : q_m s' = q_m s) : WfS L rc R s' := by
  refine ⟨fun j hj => ?_, fun hn => ?_⟩
  · rw [hD]; rw [hc] at hj; exact h.1 j hj
  · rw [hD, hc, hm]; exact h.2 (ho hn)
def WgP (L rc : Nat) (R : Nat → Mc) (sub : PSt → PRt) : Prop := ∀ s a s', GdT L (q_l s) → L ≤ 120 → WfS L rc R s → sub s = .inr (a, s') → WfS L rc R s'
theorem raP_wf (hwd : ∀ i, wd i = m_n (R i)) : WgP L rc R (raP L rc wd) := by
  intro s a s' h hL hw e
  unfold raP at e
  cases hE : tEn L rc wd (q_l s) (q_o s) (q_m s) with
  | inl p => rw [hE] at e; cases e
  | inr x =>
    obtain ⟨A, l, o, nm⟩ := x
    rw [hE] at e
    obtain ⟨g1, g2, g3⟩ := tE_pg h hE
    obtain ⟨w, aa, mb, v, a1, a2, a3, a4, a5, rfl, a7⟩ := tE_sh h hE
    have hA256 := nsAB_lt a2 a3
    have hple := gd_le l g1
    simp only at e
    by_cases c1 : kdT l = 16
    · rw [if_pos c1] at e
      obtain ⟨t1, -⟩ := gd_tail g1 (by omega)
      by_cases c2 : kdT l.tail = 2
      · rw [if_pos c2] at e
        cases e
        have ho : (if woT l.tail < 8 then o else blO o (plT L l.tail)) = none → woT l.tail < 8 ∧ o = none := fun hx => by
          by_cases c3 : woT l.tail < 8
          · rw [if_pos c3] at hx; exact ⟨c3, hx⟩
          · rw [if_neg c3] at hx; exact absurd hx blO_some
        refine hw.en rfl rfl (fun hn => ?_) hple (or_256 hA256 (by omega)) (fun hn hp => ?_)
        · obtain ⟨-, h2⟩ := ho hn
          obtain ⟨j1, j2, j3, j4, j5⟩ := a7 h2
          refine ⟨j1, j5.trans ?_⟩
          show _ = q_m s ||| (2 ^ w ||| 0)
          rw [Nat.or_zero]
        · obtain ⟨h3, h2⟩ := ho hn
          obtain ⟨j1, j2, j3, j4, j5⟩ := a7 h2
          have eP : ∀ P, puD (q_D s) (q_c s) P (q_c s) = P := fun P => if_pos rfl
          unfold PWf
          rw [eP]
          refine ⟨or_256 hA256 (by omega), hp, by show 1 ≤ 7; omega, fun x => absurd x (by show ¬ 1 = 0; omega), fun _ => ⟨⟨w, rfl⟩, tE_SWf a2 a3 a5 (hwd w) j2 j3 j4, fun r hr => (by cases hr), fun _ => ⟨rfl, h3⟩, rfl⟩, fun x => absurd x (by show ¬ 2 ≤ 1; omega), fun x => absurd x (by show ¬ 1 = 2; omega), fun x => absurd x.1 (by show ¬ 3 ≤ 1; omega), fun x => absurd x (by show ¬ (1 = 6 ∨ 1 = 7); omega)⟩
      · rw [if_neg c2] at e
        cases hF : tEn L rc wd l.tail o nm with
        | inl p => rw [hF] at e; cases e
        | inr y =>
          obtain ⟨B, l', o', nm'⟩ := y
          rw [hF] at e
          obtain ⟨w2, aa2, mb2, v2, b1, b2, b3, b4, b5, rfl, b7⟩ := tE_sh t1 hF
          have hB256 := nsAB_lt b2 b3
          cases e
          refine hw.en rfl rfl (fun hn => ?_) hple (or_256 hA256 hB256) (fun hn hp => ?_)
          · obtain ⟨i1, i2, i3, i4, i5⟩ := b7 hn
            obtain ⟨j1, j2, j3, j4, j5⟩ := a7 i1
            refine ⟨j1, i5.trans ?_⟩
            show _ = q_m s ||| (2 ^ w ||| 2 ^ w2)
            rw [j5, Nat.or_assoc]
          · obtain ⟨i1, i2, i3, i4, i5⟩ := b7 hn
            obtain ⟨j1, j2, j3, j4, j5⟩ := a7 i1
            have eP : ∀ P, puD (q_D s) (q_c s) P (q_c s) = P := fun P => if_pos rfl
            unfold PWf
            rw [eP]
            refine ⟨or_256 hA256 hB256, hp, by show 1 ≤ 7; omega, fun x => absurd x (by show ¬ 1 = 0; omega), fun _ => ⟨⟨w, rfl⟩, tE_SWf a2 a3 a5 (hwd w) j2 j3 j4, tE_SWf b2 b3 b5 (hwd w2) i2 i3 i4, fun x => (by cases x), rfl⟩, fun x => absurd x (by show ¬ 2 ≤ 1; omega), fun x => absurd x (by show ¬ 1 = 2; omega), fun x => absurd x.1 (by show ¬ 3 ≤ 1; omega), fun x => absurd x (by show ¬ (1 = 6 ∨ 1 = 7); omega)⟩
    · rw [if_neg c1] at e; cases e
theorem sumT_0 : sumT (s_t s0D) 8 = 0 := rfl
theorem saP_wf : WgP L rc R (saP L) := by
  intro s a s' h hL hw e
  unfold saP at e
  cases hE : tS L 121 s0D (q_l s) (q_o s) with
  | inl p => rw [hE] at e; cases e
  | inr x =>
    obtain ⟨A, l, o⟩ := x
    rw [hE] at e
    obtain ⟨g1, g2, g3⟩ := tS_pg _ h hE
    obtain ⟨a1, a2⟩ := tS_wf _ h hE
    have sA := tS_s _ h (show s_s s0D < 256 by decide) hE
    have hple := gd_le l g1
    have hlen := gd_len _ h
    have hlen1 := gd_len _ g1
    rw [sumT_0] at a1
    simp only at e
    by_cases c1 : kdT l = 16 ∨ kdT l = 17 ∨ kdT l = 18
    · rw [if_pos c1] at e
      obtain ⟨t1, -, t3, -⟩ := gd_tail g1 (by omega)
      cases hF : tS L 121 s0D l.tail o with
      | inl p => rw [hF] at e; cases e
      | inr y =>
        obtain ⟨B, l', o'⟩ := y
        rw [hF] at e
        obtain ⟨b1, b2⟩ := tS_wf _ t1 hF
        have sB := tS_s _ t1 (show s_s s0D < 256 by decide) hF
        rw [sumT_0] at b1
        cases e
        refine hw.en rfl rfl (fun hn => ⟨(a2 (b2 hn).1).1, (Nat.or_zero _).symm⟩) hple (or_256 sA sB) (fun hn hp => ?_)
        have eP : ∀ P, puD (q_D s) (q_c s) P (q_c s) = P := fun P => if_pos rfl
        have nA := (a2 (b2 hn).1).2 (by decide)
        have nB := (b2 hn).2 (by decide)
        obtain ⟨l1, -⟩ := lowS_ge (f := s_t A) (g := s_t B) 8
        obtain ⟨-, l2⟩ := lowS_ge (f := s_t A) (g := s_t B) 8
        unfold PWf
        rw [eP]
        refine ⟨or_256 sA sB, hp, by show 0 ≤ 7; omega, fun _ => ⟨c1, by show s_n A ≤ 200; omega, by show s_n B ≤ 200; omega, fun n hn => ?_, ?_, ?_⟩, fun x => absurd x (by show ¬ 0 = 1; omega), fun x => absurd x (by show ¬ 2 ≤ 0; omega), fun x => absurd x (by show ¬ 0 = 2; omega), fun x => absurd x.1 (by show ¬ 3 ≤ 0; omega), fun x => absurd x (by show ¬ (0 = 6 ∨ 0 = 7); omega)⟩
        · have := sumT_at (f := s_t A) (n := n) 8 hn
          have := sumT_at (f := s_t B) (n := n) 8 hn
          show s_t A n ≤ 120 ∧ s_t B n ≤ 120
          omega
        · show -500 ≤ lowS (fun n => (s_t A n : Int) - (s_t B n : Int)) 8
          omega
        · show higS (fun n => (s_t A n : Int) - (s_t B n : Int)) 8 ≤ 500
          omega
    · rw [if_neg c1] at e; cases e
theorem jn_wf {s : PSt} {f p a b : Nat} (hw : WfS L rc R s) (hf : 3 ≤ f ∧ f ≤ 5) (hp : p ≤ L) (ha : a < q_c s) (hb : b < q_c s) : WfS L rc R (jnP f p a b s) := by
  have h256 := or_256 (hw.1 a ha).2 (hw.1 b hb).2
  have er : rowB (f, p, a, b, 0, p_s (q_D s a) ||| p_s (q_D s b), s0D, s0D) = 0 := if_neg (by show ¬ f = 1; omega)
  refine hw.en rfl rfl (fun hn => ⟨hn, by rw [er, Nat.or_zero]⟩) hp h256 (fun hn hpc => ?_)
  have eP : ∀ P, puD (q_D s) (q_c s) P (q_c s) = P := fun P => if_pos rfl
  have eo : ∀ P j, j < q_c s → puD (q_D s) (q_c s) P j = q_D s j := fun P j hj => if_neg (by omega)
  unfold PWf
  rw [eP]
  refine ⟨h256, hpc, by show f ≤ 7; omega, fun x => absurd x (by show ¬ f = 0; omega), fun x => absurd x (by show ¬ f = 1; omega), fun _ => ha, fun x => absurd x (by show ¬ f = 2; omega), fun _ => ⟨hb, ?_⟩, fun x => absurd x (by show ¬ (f = 6 ∨ f = 7); omega)⟩
  show p_s (q_D s a) ||| p_s (q_D s b) = p_s (puD _ _ _ a) ||| p_s (puD _ _ _ b)
  rw [eo _ a ha, eo _ b hb]
theorem lpG_wf {sub : PSt → PRt} {key form : Nat} (hs : SgP L sub) (hg : WgP L rc R sub) (hk : 2 ≤ lnK key) (hk0 : key ≠ 0) (hf : 3 ≤ form ∧ form ≤ 5) : ∀ n a s a' s', GdT L (q_l s) → L ≤ 120 → WfS L rc R s → a < q_c s → lpG L sub key form n a s = .inr (a', s') → WfS L rc R s'
  | 0, a, s, a', s', h, hL, hw, ha, e => by
    cases e
    exact hw
  | n + 1, a, s, a', s', h, hL, hw, ha, e => by
    unfold lpG at e
    by_cases c : kdT (q_l s) = key
    · rw [if_pos c] at e
      obtain ⟨g1, g2, g3, -⟩ := gd_tail h (by omega)
      cases hS : sub (tlS s) with
      | inl p => rw [hS] at e; cases e
      | inr x =>
        obtain ⟨b, s1⟩ := x
        rw [hS] at e
        obtain ⟨⟨w1, w2, w3, w4, w5, w6⟩, v1, v2, v3, v4⟩ := hs (tlS s) b s1 g1 hS
        have hw1 := hg (tlS s) b s1 g1 hL (hw.stl rfl rfl (fun x => x) rfl) hS
        have e5 : q_c (tlS s) = q_c s := rfl
        rw [e5] at v3
        exact lpG_wf hs hg hk hk0 hf n (q_c s1) (jnP form (plT L (q_l s)) a b s1) a' s' w1 hL (jn_wf hw1 hf (gd_le _ h) (by omega) v4) (Nat.lt_succ_self _) e
    · rw [if_neg c] at e
      cases e
      exact hw
theorem anG_wf {sub : PSt → PRt} (hs : SgP L sub) (hg : WgP L rc R sub) : WgP L rc R (anG L sub) := by
  intro s a s' h hL hw e
  unfold anG at e
  cases hS : sub s with
  | inl p => rw [hS] at e; cases e
  | inr x =>
    obtain ⟨b, s1⟩ := x
    rw [hS] at e
    have h1 := hs s b s1 h hS
    exact lpG_wf hs hg (by decide) (by decide) (by decide) 120 b s1 a s' h1.1.1 hL (hg s b s1 h hL hw hS) h1.2.2.2.2 e
theorem orG_wf {sub : PSt → PRt} (hs : SgP L sub) (hg : WgP L rc R sub) : WgP L rc R (orG L sub) := by
  intro s a s' h hL hw e
  unfold orG at e
  cases hS : anG L sub s with
  | inl p => rw [hS] at e; cases e
  | inr x =>
    obtain ⟨b, s1⟩ := x
    rw [hS] at e
    have h1 := anG_pg hs s b s1 h hS
    exact lpG_wf (anG_pg hs) (anG_wf hs hg) (by decide) (by decide) (by decide) 120 b s1 a s' h1.1.1 hL (anG_wf hs hg s b s1 h hL hw hS) h1.2.2.2.2 e
theorem soG_wf {sub : PSt → PRt} (hs : SgP L sub) (hg : WgP L rc R sub) : ∀ n, WgP L rc R (soG L sub n)
  | 0 => fun s a s' h hL hw e => by cases e
  | n + 1 => fun s a s' h hL hw e => by
    unfold soG at e
    cases hS : orG L sub s with
    | inl p => rw [hS] at e; cases e
    | inr x =>
      obtain ⟨b, s1⟩ := x
      rw [hS] at e
      have h1 := orG_pg hs s b s1 h hS
      have hw1 := orG_wf hs hg s b s1 h hL hw hS
      simp only at e
      by_cases c : kdT (q_l s1) = 10
      · rw [if_pos c] at e
        obtain ⟨g1, -⟩ := gd_tail h1.1.1 (by omega)
        cases hR : soG L sub n (tlS s1) with
        | inl p => rw [hR] at e; cases e
        | inr y =>
          obtain ⟨b2, s2⟩ := y
          rw [hR] at e
          obtain ⟨⟨⟨w1, w2, w3, w4, w5, w6⟩, v1, v2, v3, v4⟩, -⟩ := soG_pg hs n (tlS s1) b2 s2 g1 hR
          have hw2 := soG_wf hs hg n (tlS s1) b2 s2 g1 hL (hw1.stl rfl rfl (fun x => x) rfl) hR
          have e5 : q_c (tlS s1) = q_c s1 := rfl
          rw [e5] at v3
          have h5 := h1.2.2.2.2
          cases e
          exact jn_wf hw2 (by decide) (gd_le _ h1.1.1) (by omega) v4
      · rw [if_neg c] at e
        cases e
        exact hw1
theorem clr_sub {x n : Nat} (hx : x < 256) (hn : n < 8) : ∀ k, k < 8 → bt (clr x n) k = 1 → bt x k = 1 := by
  intro k hk h
  rw [clr_bt x hx n hn k hk] at h
  split at h
  · omega
  · exact h
theorem pcS_wf {sub : PSt → PRt} (hwd : ∀ i, wd i = m_n (R i)) (hs : SgP L sub) (hg : WgP L rc R sub) : WgP L rc R (pcS L rc wd sub) := by
  intro s a s' h hL hw e
  have eP : ∀ (s : PSt) P, puD (q_D s) (q_c s) P (q_c s) = P := fun s P => if_pos rfl
  have eo : ∀ (s : PSt) P j, j < q_c s → puD (q_D s) (q_c s) P j = q_D s j := fun s P j hj => if_neg (by omega)
  unfold pcS at e
  by_cases c7 : kdT (q_l s) = 7
  · rw [if_pos c7] at e
    obtain ⟨g1, -⟩ := gd_tail h (by omega)
    cases hS : sub (tlS s) with
    | inl p => rw [hS] at e; cases e
    | inr x =>
      obtain ⟨b, s1⟩ := x
      rw [hS] at e
      have v4 := (hs (tlS s) b s1 g1 hS).2.2.2.2
      have hw1 := hg (tlS s) b s1 g1 hL (hw.stl rfl rfl (fun x => x) rfl) hS
      cases e
      refine hw1.en rfl rfl (fun hn => ⟨hn, (Nat.or_zero _).symm⟩) (gd_le _ h) (hw1.1 b v4).2 (fun hn hpc => ?_)
      unfold PWf
      rw [eP]
      refine ⟨(hw1.1 b v4).2, hpc, by show 2 ≤ 7; omega, fun x => absurd x (by show ¬ 2 = 0; omega), fun x => absurd x (by show ¬ 2 = 1; omega), fun _ => v4, fun _ => ?_, fun x => absurd x.1 (by show ¬ 3 ≤ 2; omega), fun x => absurd x (by show ¬ (2 = 6 ∨ 2 = 7); omega)⟩
      show p_s (q_D s1 b) = p_s (puD _ _ _ b)
      rw [eo s1 _ b v4]
  rw [if_neg c7] at e
  by_cases c5 : kdT (q_l s) = 5 ∨ kdT (q_l s) = 6
  · rw [if_pos c5] at e
    obtain ⟨g1, -⟩ := gd_tail h (by omega)
    by_cases c3 : kdT (q_l s).tail = 3
    · rw [if_pos c3] at e
      obtain ⟨f1, -, -, f4⟩ := gd_tail g1 (by omega)
      have hw8 : woT (q_l s).tail < 8 := f4.2.2.2.1 c3
      cases hS : sub ((q_l s).tail.tail, q_c s, q_D s, (if bt (q_b s) (woT (q_l s).tail) = 1 then blO (q_o s) (plT L (q_l s).tail) else q_o s), q_b s ||| 2 ^ woT (q_l s).tail, q_m s) with
      | inl p => rw [hS] at e; cases e
      | inr x =>
        obtain ⟨b, s1⟩ := x
        rw [hS] at e
        have v4 := (hs ((q_l s).tail.tail, q_c s, q_D s, (if bt (q_b s) (woT (q_l s).tail) = 1 then blO (q_o s) (plT L (q_l s).tail) else q_o s), q_b s ||| 2 ^ woT (q_l s).tail, q_m s) b s1 f1 hS).2.2.2.2
        have hw1 := hg ((q_l s).tail.tail, q_c s, q_D s, (if bt (q_b s) (woT (q_l s).tail) = 1 then blO (q_o s) (plT L (q_l s).tail) else q_o s), q_b s ||| 2 ^ woT (q_l s).tail, q_m s) b s1 f1 hL (hw.stl rfl rfl (fun x => by
          have x' : (if bt (q_b s) (woT (q_l s).tail) = 1 then blO (q_o s) (plT L (q_l s).tail) else q_o s) = none := x
          split at x'
          · exact absurd x' blO_some
          · exact x') rfl) hS
        obtain ⟨hb1, hb2⟩ := hw1.1 b v4
        have h256 := (clr_I _ hb2 _ hw8).2
        have er : ∀ P, 6 ≤ p_f P → rowB P = 0 := fun P hP => if_neg (by omega)
        cases e
        refine WfS.en (s := s1) hw1 rfl rfl (fun hn => ⟨hn, by rw [er _ (by show 6 ≤ kdT (q_l s) + 1; omega), Nat.or_zero]; rfl⟩) (gd_le _ h) h256 (fun hn hpc => ?_)
        unfold PWf
        rw [eP]
        refine ⟨h256, hpc, by show kdT (q_l s) + 1 ≤ 7; omega, fun x => absurd x (by show ¬ kdT (q_l s) + 1 = 0; omega), fun x => absurd x (by show ¬ kdT (q_l s) + 1 = 1; omega), fun _ => v4, fun x => absurd x (by show ¬ kdT (q_l s) + 1 = 2; omega), fun x => absurd x.2 (by show ¬ kdT (q_l s) + 1 ≤ 5; omega), fun _ => ?_⟩
        intro n hn8 hb
        show bt (p_s (puD _ _ _ b)) n = 1
        rw [eo s1 _ b v4]
        exact clr_sub hb2 hw8 n hn8 hb
    · rw [if_neg c3] at e; cases e
  rw [if_neg c5] at e
  by_cases c11 : kdT (q_l s) = 11
  · rw [if_pos c11] at e
    obtain ⟨g1, -⟩ := gd_tail h (by omega)
    cases hS : soG L sub 122 (tlS s) with
    | inl p => rw [hS] at e; cases e
    | inr x =>
      obtain ⟨b, s1⟩ := x
      rw [hS] at e
      simp only at e
      have hw1 := soG_wf hs hg 122 (tlS s) b s1 g1 hL (hw.stl rfl rfl (fun x => x) rfl) hS
      by_cases c12 : kdT (q_l s1) = 12
      · rw [if_pos c12] at e
        cases e
        exact hw1.stl rfl rfl (fun x => x) rfl
      · rw [if_neg c12] at e; cases e
  rw [if_neg c11] at e
  by_cases c4 : kdT (q_l s) = 4
  · rw [if_pos c4] at e
    exact raP_wf hwd s a s' h hL hw e
  rw [if_neg c4] at e
  by_cases c2 : kdT (q_l s) = 2 ∨ kdT (q_l s) = 3
  · rw [if_pos c2] at e
    exact saP_wf s a s' h hL hw e
  · rw [if_neg c2] at e; cases e
theorem pcP_wf (hwd : ∀ i, wd i = m_n (R i)) : ∀ n, WgP L rc R (pcP L rc wd n)
  | 0 => fun s a s' h hL hw e => by cases e
  | n + 1 => pcS_wf hwd (pcP_pg n) (pcP_wf hwd n)
end WfP
