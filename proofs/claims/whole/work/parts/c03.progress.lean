/-! ===== the descent goes on: tokens, bytes, parts ===== -/
section ProgP
variable {L rc : Nat} {wd : Nat → Nat}
theorem gd_tail {l : List Tk} (h : GdT L l) (hk : kdT l ≠ 0) : GdT L l.tail ∧ plT L l + lnK (kdT l) ≤ plT L l.tail ∧ l.tail.length + 1 = l.length ∧ tkOK (kdT l, plT L l, woT l) := by
  cases l with
  | nil => exact absurd rfl hk
  | cons x l => exact ⟨h.2.2, h.2.1, rfl, h.1⟩
theorem kd_nil {l : List Tk} (h : l.length = 0) : kdT l = 0 := by
  cases l with
  | nil => rfl
  | cons x l => simp at h
theorem kd_0 {l : List Tk} (h : GdT L l) (hk : kdT l = 0) : l = [] := by
  cases l with
  | nil => rfl
  | cons x l =>
    have := h.1.1
    have e : x.1 = 0 := hk
    omega
theorem ln_2 : lnK 2 = 1 ∧ lnK 3 = 1 ∧ lnK 4 = 2 ∧ lnK 5 = 3 ∧ lnK 6 = 2 ∧ lnK 7 = 3 ∧ lnK 8 = 3 ∧ lnK 9 = 2 ∧ lnK 10 = 2 ∧ lnK 11 = 1 ∧ lnK 12 = 1 ∧ lnK 13 = 1 ∧ lnK 14 = 1 ∧ lnK 15 = 1 ∧ lnK 16 = 1 ∧ lnK 17 = 1 ∧ lnK 18 = 2 := by decide
theorem tT_pg {most : Nat} {S S' : SD} {l l' : List Tk} {o o' : Option Nat} (h : GdT L l) (e : tT L most S l o = .inr (S', l', o')) : l' = l.tail ∧ (kdT l = 2 ∨ kdT l = 3) ∧ GdT L l' ∧ plT L l + 1 ≤ plT L l' ∧ l'.length + 1 = l.length := by
  unfold tT at e
  by_cases c : kdT l = 2
  · rw [if_pos c] at e
    obtain ⟨g1, g2, g3, -⟩ := gd_tail h (by omega)
    rw [c] at g2
    cases e
    exact ⟨rfl, Or.inl c, g1, g2, g3⟩
  · rw [if_neg c] at e
    by_cases c2 : kdT l = 3
    · rw [if_pos c2] at e
      obtain ⟨g1, g2, g3, -⟩ := gd_tail h (by omega)
      rw [c2] at g2
      cases e
      exact ⟨rfl, Or.inr c2, g1, g2, g3⟩
    · rw [if_neg c2] at e
      cases e
theorem tS_pg : ∀ n {S S' : SD} {l l' : List Tk} {o o' : Option Nat}, GdT L l → tS L n S l o = .inr (S', l', o') → GdT L l' ∧ plT L l + 1 ≤ plT L l' ∧ l'.length + 1 ≤ l.length
  | 0, S, S', l, l', o, o', h, e => by cases e
  | n + 1, S, S', l, l', o, o', h, e => by
    unfold tS at e
    cases hT : tT L 99 S l o with
    | inl p => rw [hT] at e; cases e
    | inr x =>
      obtain ⟨S1, l1, o1⟩ := x
      rw [hT] at e
      obtain ⟨-, -, g1, g2, g3⟩ := tT_pg h hT
      simp only at e
      by_cases c : kdT l1 = 15
      · rw [if_pos c] at e
        obtain ⟨k1, k2, k3, -⟩ := gd_tail g1 (by omega)
        obtain ⟨i1, i2, i3⟩ := tS_pg n k1 e
        have := ln_pos (kdT l1)
        exact ⟨i1, by omega, by omega⟩
      · rw [if_neg c] at e
        cases e
        exact ⟨g1, g2, by omega⟩
theorem tEz_pg {w p : Nat} {more : Bool} {S S' : SD} {l l' : List Tk} {o o' : Option Nat} {nm nm' : Nat} (h : GdT L l) (e : tEz L rc wd w p more S l o nm = .inr (S', l', o', nm')) : kdT l = 14 ∧ l' = l.tail ∧ S' = S ∧ GdT L l' ∧ plT L l + 1 ≤ plT L l' ∧ l'.length + 1 = l.length := by
  unfold tEz at e
  by_cases c : kdT l = 14
  · rw [if_pos c] at e
    obtain ⟨g1, g2, g3, -⟩ := gd_tail h (by omega)
    rw [c] at g2
    split at e <;> (cases e; exact ⟨c, rfl, rfl, g1, g2, g3⟩)
  · rw [if_neg c] at e
    cases e
theorem tE_pg {S' : SD} {l l' : List Tk} {o o' : Option Nat} {nm nm' : Nat} (h : GdT L l) (e : tEn L rc wd l o nm = .inr (S', l', o', nm')) : GdT L l' ∧ plT L l + 5 ≤ plT L l' ∧ l'.length + 1 ≤ l.length := by
  unfold tEn at e
  by_cases c1 : kdT l = 4
  · rw [if_pos c1] at e
    obtain ⟨a1, a2, a3, -⟩ := gd_tail h (by omega)
    rw [c1] at a2
    by_cases c2 : kdT l.tail = 13
    · rw [if_pos c2] at e
      obtain ⟨b1, b2, b3, -⟩ := gd_tail a1 (by omega)
      rw [c2] at b2
      by_cases c3 : kdT l.tail.tail = 3
      · rw [if_pos c3] at e
        obtain ⟨d1, d2, d3, -⟩ := gd_tail b1 (by omega)
        rw [c3] at d2
        have k2 := ln_2
        by_cases c4 : kdT l.tail.tail.tail = 15
        · rw [if_pos c4] at e
          obtain ⟨f1, f2, f3, -⟩ := gd_tail d1 (by omega)
          rw [c4] at f2
          cases hT : tT L 3 (adN (some (woT l), fun _ => 0, 0, 0) (woT l.tail.tail)) l.tail.tail.tail.tail o with
          | inl p => rw [hT] at e; cases e
          | inr x =>
            obtain ⟨S1, l1, o1⟩ := x
            rw [hT] at e
            obtain ⟨-, -, g1, g2, g3⟩ := tT_pg f1 hT
            obtain ⟨-, -, -, i1, i2, i3⟩ := tEz_pg g1 e
            exact ⟨i1, by omega, by omega⟩
        · rw [if_neg c4] at e
          obtain ⟨-, -, -, i1, i2, i3⟩ := tEz_pg d1 e
          exact ⟨i1, by omega, by omega⟩
      · rw [if_neg c3] at e; cases e
    · rw [if_neg c2] at e; cases e
  · rw [if_neg c1] at e; cases e
def PgW (L : Nat) (s s' : PSt) : Prop := GdT L (q_l s') ∧ (q_l s').length ≤ (q_l s).length ∧ plT L (q_l s) ≤ plT L (q_l s') ∧ 2 * q_c s' + plT L (q_l s) ≤ 2 * q_c s + plT L (q_l s') ∧ q_c s ≤ q_c s' ∧ q_b s' = q_b s
/-- a formula has been read: it has a part, a token, three bytes at least -/
def PgS (L : Nat) (s : PSt) (a : Nat) (s' : PSt) : Prop := PgW L s s' ∧ (q_l s').length < (q_l s).length ∧ plT L (q_l s) + 3 ≤ plT L (q_l s') ∧ q_c s < q_c s' ∧ a < q_c s'
def SgP (L : Nat) (sub : PSt → PRt) : Prop := ∀ s a s', GdT L (q_l s) → sub s = .inr (a, s') → PgS L s a s'
theorem raP_pg : SgP L (raP L rc wd) := by
  intro s a s' h e
  unfold raP at e
  cases hE : tEn L rc wd (q_l s) (q_o s) (q_m s) with
  | inl p => rw [hE] at e; cases e
  | inr x =>
    obtain ⟨A, l, o, nm⟩ := x
    rw [hE] at e
    obtain ⟨g1, g2, g3⟩ := tE_pg h hE
    simp only at e
    by_cases c1 : kdT l = 16
    · rw [if_pos c1] at e
      obtain ⟨a1, a2, a3, -⟩ := gd_tail g1 (by omega)
      have p1 := ln_pos (kdT l)
      by_cases c2 : kdT l.tail = 2
      · rw [if_pos c2] at e
        obtain ⟨b1, b2, b3, -⟩ := gd_tail a1 (by omega)
        have p2 := ln_pos (kdT l.tail)
        cases e
        refine ⟨⟨b1, ?_, ?_, ?_, ?_, rfl⟩, ?_, ?_, ?_, ?_⟩ <;> simp only [enP, q_l, q_c, q_b] at * <;> omega
      · rw [if_neg c2] at e
        cases hF : tEn L rc wd l.tail o nm with
        | inl p => rw [hF] at e; cases e
        | inr y =>
          obtain ⟨B, l', o', nm'⟩ := y
          rw [hF] at e
          obtain ⟨b1, b2, b3⟩ := tE_pg a1 hF
          cases e
          refine ⟨⟨b1, ?_, ?_, ?_, ?_, rfl⟩, ?_, ?_, ?_, ?_⟩ <;> simp only [enP, q_l, q_c, q_b] at * <;> omega
    · rw [if_neg c1] at e; cases e
theorem saP_pg : SgP L (saP L) := by
  intro s a s' h e
  unfold saP at e
  cases hE : tS L 121 s0D (q_l s) (q_o s) with
  | inl p => rw [hE] at e; cases e
  | inr x =>
    obtain ⟨A, l, o⟩ := x
    rw [hE] at e
    obtain ⟨g1, g2, g3⟩ := tS_pg _ h hE
    simp only at e
    by_cases c1 : kdT l = 16 ∨ kdT l = 17 ∨ kdT l = 18
    · rw [if_pos c1] at e
      obtain ⟨a1, a2, a3, -⟩ := gd_tail g1 (by omega)
      have p1 := ln_pos (kdT l)
      cases hF : tS L 121 s0D l.tail o with
      | inl p => rw [hF] at e; cases e
      | inr y =>
        obtain ⟨B, l', o'⟩ := y
        rw [hF] at e
        obtain ⟨b1, b2, b3⟩ := tS_pg _ a1 hF
        cases e
        refine ⟨⟨b1, ?_, ?_, ?_, ?_, rfl⟩, ?_, ?_, ?_, ?_⟩ <;> simp only [enP, q_l, q_c, q_b] at * <;> omega
    · rw [if_neg c1] at e; cases e
theorem lpG_pg {sub : PSt → PRt} {key form : Nat} (hs : SgP L sub) (hk : 2 ≤ lnK key) (hk0 : key ≠ 0) : ∀ n a s a' s', GdT L (q_l s) → a < q_c s → lpG L sub key form n a s = .inr (a', s') → PgW L s s' ∧ a' < q_c s'
  | 0, a, s, a', s', h, ha, e => by
    cases e
    exact ⟨⟨h, Nat.le_refl _, Nat.le_refl _, Nat.le_refl _, Nat.le_refl _, rfl⟩, ha⟩
  | n + 1, a, s, a', s', h, ha, e => by
    unfold lpG at e
    by_cases c : kdT (q_l s) = key
    · rw [if_pos c] at e
      obtain ⟨g1, g2, g3, -⟩ := gd_tail h (by omega)
      rw [c] at g2
      cases hS : sub (tlS s) with
      | inl p => rw [hS] at e; cases e
      | inr x =>
        obtain ⟨b, s1⟩ := x
        rw [hS] at e
        obtain ⟨⟨w1, w2, w3, w4, w5, w6⟩, v1, v2, v3, v4⟩ := hs (tlS s) b s1 g1 hS
        obtain ⟨⟨i1, i2, i3, i4, i5, i6⟩, i7⟩ := lpG_pg hs hk hk0 n (q_c s1) (jnP form (plT L (q_l s)) a b s1) a' s' w1 (Nat.lt_succ_self _) e
        have e1 : q_l (jnP form (plT L (q_l s)) a b s1) = q_l s1 := rfl
        have e2 : q_c (jnP form (plT L (q_l s)) a b s1) = q_c s1 + 1 := rfl
        have e3 : q_b (jnP form (plT L (q_l s)) a b s1) = q_b s1 := rfl
        have e4 : q_l (tlS s) = (q_l s).tail := rfl
        have e5 : q_c (tlS s) = q_c s := rfl
        have e6 : q_b (tlS s) = q_b s := rfl
        simp only [e1, e2] at i2 i3 i4 i5
        simp only [e4, e5] at w2 w3 w4 w5 v1 v2 v3
        exact ⟨⟨i1, by omega, by omega, by omega, by omega, i6.trans w6⟩, i7⟩
    · rw [if_neg c] at e
      cases e
      exact ⟨⟨h, Nat.le_refl _, Nat.le_refl _, Nat.le_refl _, Nat.le_refl _, rfl⟩, ha⟩
theorem PgS.lp {s s1 s2 : PSt} {a a2 : Nat} (h : PgS L s a s1) (g : PgW L s1 s2) (ha : a2 < q_c s2) : PgS L s a2 s2 := by
  obtain ⟨⟨w1, w2, w3, w4, w5, w6⟩, v1, v2, v3, v4⟩ := h
  obtain ⟨i1, i2, i3, i4, i5, i6⟩ := g
  exact ⟨⟨i1, by omega, by omega, by omega, by omega, i6.trans w6⟩, by omega, by omega, by omega, ha⟩
theorem anG_pg {sub : PSt → PRt} (hs : SgP L sub) : SgP L (anG L sub) := by
  intro s a s' h e
  unfold anG at e
  cases hS : sub s with
  | inl p => rw [hS] at e; cases e
  | inr x =>
    obtain ⟨b, s1⟩ := x
    rw [hS] at e
    have h1 := hs s b s1 h hS
    obtain ⟨g1, g2⟩ := lpG_pg hs (by decide) (by decide) 120 b s1 a s' h1.1.1 h1.2.2.2.2 e
    exact h1.lp g1 g2
theorem orG_pg {sub : PSt → PRt} (hs : SgP L sub) : SgP L (orG L sub) := by
  intro s a s' h e
  unfold orG at e
  cases hS : anG L sub s with
  | inl p => rw [hS] at e; cases e
  | inr x =>
    obtain ⟨b, s1⟩ := x
    rw [hS] at e
    have h1 := anG_pg hs s b s1 h hS
    obtain ⟨g1, g2⟩ := lpG_pg (anG_pg hs) (by decide) (by decide) 120 b s1 a s' h1.1.1 h1.2.2.2.2 e
    exact h1.lp g1 g2
theorem soG_pg {sub : PSt → PRt} (hs : SgP L sub) : ∀ n s a s', GdT L (q_l s) → soG L sub n s = .inr (a, s') → PgS L s a s' ∧ kdT (q_l s') ≠ 10
  | 0, s, a, s', h, e => by cases e
  | n + 1, s, a, s', h, e => by
    unfold soG at e
    cases hS : orG L sub s with
    | inl p => rw [hS] at e; cases e
    | inr x =>
      obtain ⟨b, s1⟩ := x
      rw [hS] at e
      have h1 := orG_pg hs s b s1 h hS
      simp only at e
      by_cases c : kdT (q_l s1) = 10
      · rw [if_pos c] at e
        obtain ⟨g1, g2, g3, -⟩ := gd_tail h1.1.1 (by omega)
        rw [c] at g2
        have k10 : lnK 10 = 2 := rfl
        cases hR : soG L sub n (tlS s1) with
        | inl p => rw [hR] at e; cases e
        | inr y =>
          obtain ⟨b2, s2⟩ := y
          rw [hR] at e
          obtain ⟨⟨⟨w1, w2, w3, w4, w5, w6⟩, v1, v2, v3, v4⟩, hk⟩ := soG_pg hs n (tlS s1) b2 s2 g1 hR
          have e4 : q_l (tlS s1) = (q_l s1).tail := rfl
          have e5 : q_c (tlS s1) = q_c s1 := rfl
          have e6 : q_b (tlS s1) = q_b s1 := rfl
          simp only [e4, e5] at w2 w3 w4 w5 v1 v2 v3
          cases e
          refine ⟨h1.lp ⟨w1, ?_, ?_, ?_, ?_, w6⟩ (Nat.lt_succ_self _), hk⟩
          · show (q_l s2).length ≤ _; omega
          · show _ ≤ plT L (q_l s2); omega
          · show 2 * (q_c s2 + 1) + _ ≤ _ + plT L (q_l s2); omega
          · show _ ≤ q_c s2 + 1; omega
      · rw [if_neg c] at e
        cases e
        exact ⟨h1, c⟩
theorem pcS_pg {sub : PSt → PRt} (hs : SgP L sub) : SgP L (pcS L rc wd sub) := by
  intro s a s' h e
  unfold pcS at e
  by_cases c7 : kdT (q_l s) = 7
  · rw [if_pos c7] at e
    obtain ⟨g1, g2, g3, -⟩ := gd_tail h (by omega)
    rw [c7] at g2
    have k7 : lnK 7 = 3 := rfl
    cases hS : sub (tlS s) with
    | inl p => rw [hS] at e; cases e
    | inr x =>
      obtain ⟨b, s1⟩ := x
      rw [hS] at e
      obtain ⟨⟨w1, w2, w3, w4, w5, w6⟩, v1, v2, v3, v4⟩ := hs (tlS s) b s1 g1 hS
      have e4 : q_l (tlS s) = (q_l s).tail := rfl
      have e5 : q_c (tlS s) = q_c s := rfl
      simp only [e4, e5] at w2 w3 w4 w5 v1 v2 v3
      cases e
      refine ⟨⟨w1, ?_, ?_, ?_, ?_, w6⟩, ?_, ?_, ?_, Nat.lt_succ_self _⟩
      · show (q_l s1).length ≤ _; omega
      · show _ ≤ plT L (q_l s1); omega
      · show 2 * (q_c s1 + 1) + _ ≤ _ + plT L (q_l s1); omega
      · show _ ≤ q_c s1 + 1; omega
      · show (q_l s1).length < _; omega
      · show _ ≤ plT L (q_l s1); omega
      · show _ < q_c s1 + 1; omega
  rw [if_neg c7] at e
  by_cases c5 : kdT (q_l s) = 5 ∨ kdT (q_l s) = 6
  · rw [if_pos c5] at e
    obtain ⟨g1, g2, g3, -⟩ := gd_tail h (by omega)
    have k5 : 2 ≤ lnK (kdT (q_l s)) := by rcases c5 with c | c <;> rw [c] <;> decide
    by_cases c3 : kdT (q_l s).tail = 3
    · rw [if_pos c3] at e
      obtain ⟨f1, f2, f3, -⟩ := gd_tail g1 (by omega)
      have k3 := ln_pos (kdT (q_l s).tail)
      cases hS : sub ((q_l s).tail.tail, q_c s, q_D s, (if bt (q_b s) (woT (q_l s).tail) = 1 then blO (q_o s) (plT L (q_l s).tail) else q_o s), q_b s ||| 2 ^ woT (q_l s).tail, q_m s) with
      | inl p => rw [hS] at e; cases e
      | inr x =>
        obtain ⟨b, s1⟩ := x
        rw [hS] at e
        obtain ⟨⟨w1, w2, w3, w4, w5, w6⟩, v1, v2, v3, v4⟩ := hs ((q_l s).tail.tail, q_c s, q_D s, (if bt (q_b s) (woT (q_l s).tail) = 1 then blO (q_o s) (plT L (q_l s).tail) else q_o s), q_b s ||| 2 ^ woT (q_l s).tail, q_m s) b s1 f1 hS
        simp only [q_l, q_c, q_b] at w2 w3 w4 w5 v1 v2 v3 g2 g3 f2 f3 k5 k3
        cases e
        refine ⟨⟨w1, ?_, ?_, ?_, ?_, rfl⟩, ?_, ?_, ?_, Nat.lt_succ_self _⟩
        · show (q_l s1).length ≤ _; simp only [q_l]; omega
        · show _ ≤ plT L (q_l s1); simp only [q_l]; omega
        · show 2 * (q_c s1 + 1) + _ ≤ _ + plT L (q_l s1); simp only [q_l, q_c]; omega
        · show _ ≤ q_c s1 + 1; simp only [q_c]; omega
        · show (q_l s1).length < _; simp only [q_l]; omega
        · show _ ≤ plT L (q_l s1); simp only [q_l]; omega
        · show _ < q_c s1 + 1; simp only [q_c]; omega
    · rw [if_neg c3] at e; cases e
  rw [if_neg c5] at e
  by_cases c11 : kdT (q_l s) = 11
  · rw [if_pos c11] at e
    obtain ⟨g1, g2, g3, -⟩ := gd_tail h (by omega)
    have k11 := ln_pos (kdT (q_l s))
    cases hS : soG L sub 122 (tlS s) with
    | inl p => rw [hS] at e; cases e
    | inr x =>
      obtain ⟨b, s1⟩ := x
      rw [hS] at e
      simp only at e
      obtain ⟨⟨⟨w1, w2, w3, w4, w5, w6⟩, v1, v2, v3, v4⟩, -⟩ := soG_pg hs 122 (tlS s) b s1 g1 hS
      have e4 : q_l (tlS s) = (q_l s).tail := rfl
      have e5 : q_c (tlS s) = q_c s := rfl
      simp only [e4, e5] at w2 w3 w4 w5 v1 v2 v3
      by_cases c12 : kdT (q_l s1) = 12
      · rw [if_pos c12] at e
        obtain ⟨f1, f2, f3, -⟩ := gd_tail w1 (by omega)
        have k12 := ln_pos (kdT (q_l s1))
        cases e
        refine ⟨⟨f1, ?_, ?_, ?_, w5, w6⟩, ?_, ?_, v3, v4⟩
        · show (q_l s1).tail.length ≤ _; omega
        · show _ ≤ plT L (q_l s1).tail; omega
        · show 2 * q_c s1 + _ ≤ _ + plT L (q_l s1).tail; omega
        · show (q_l s1).tail.length < _; omega
        · show _ ≤ plT L (q_l s1).tail; omega
      · rw [if_neg c12] at e; cases e
  rw [if_neg c11] at e
  by_cases c4 : kdT (q_l s) = 4
  · rw [if_pos c4] at e
    exact raP_pg s a s' h e
  rw [if_neg c4] at e
  by_cases c2 : kdT (q_l s) = 2 ∨ kdT (q_l s) = 3
  · rw [if_pos c2] at e
    exact saP_pg s a s' h e
  · rw [if_neg c2] at e; cases e
theorem pcP_pg : ∀ n, SgP L (pcP L rc wd n)
  | 0 => fun s a s' h e => by cases e
  | n + 1 => pcS_pg (pcP_pg n)
end ProgP
