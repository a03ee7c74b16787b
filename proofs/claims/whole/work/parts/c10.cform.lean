/-! ===== the class: formulas ===== -/
section FormC
variable {G : GG} {r k pa p0 ra r0 L rc : Nat} {wd : Nat → Nat} {W : List Tk}
/-- the tokens are a text's; there are no more parts than bytes allow, and no more formulas one in the other -/
def RdQ (L n op : Nat) (s : PSt) : Prop := GdT L (q_l s) ∧ 2 * q_c s ≤ plT L (q_l s) ∧ 5 * op + 5 * n ≤ plT L (q_l s) + 50
def FmC (G : GG) (r k pa p0 ra r0 L rc : Nat) (wd : Nat → Nat) (W : List Tk) (n lev dd : Nat) (g : PSt → PRt) : Prop := ∀ (M : Mem) (s : PSt) (op : Nat) (Q : Option Value → Mem → Prop), RdE M r k pa p0 ra r0 L rc wd W → RdI M r p0 rc W s → RdQ L n op s → (∀ M', FrP M M' (RPF r p0) → RdO M' r p0 rc L W (g s) → Q (some (.int (roV (g s)))) M') → Call G dd 0 0 mX5_formula [.ref r, .int (nI lev), .int (nI (10 - n)), .int (nI op)] M Q
def PcC (G : GG) (r k pa p0 ra r0 L rc : Nat) (wd : Nat → Nat) (W : List Tk) (n dd : Nat) (g : PSt → PRt) : Prop := ∀ (M : Mem) (s : PSt) (op : Nat) (Q : Option Value → Mem → Prop), RdE M r k pa p0 ra r0 L rc wd W → RdI M r p0 rc W s → RdQ L n op s → (∀ M', FrP M M' (RPF r p0) → RdO M' r p0 rc L W (g s) → Q (some (.int (roV (g s)))) M') → Call G dd 0 0 mX5_piece [.ref r, .int (nI (10 - n)), .int (nI op)] M Q
theorem RdQ.op {n op : Nat} {s : PSt} (h : RdQ L n op s) (hL : L ≤ 120) : op ≤ 34 ∧ n ≤ 34 ∧ q_c s ≤ 60 := by
  obtain ⟨h1, h2, h3⟩ := h
  have := gd_le _ h1
  omega
theorem w_fm3 {n x : Nat} {g : PSt → PRt} (h : ∀ d, PcC G r k pa p0 ra r0 L rc wd W n (d + x) g) (d : Nat) : FmC G r k pa p0 ra r0 L rc wd W n 3 (d + (x + 1)) g := by
  intro M s op Q hE hI hq hQ
  refine eX5_formula r _ _ _ ⟨fun c => absurd c (by decide), fun _ => ⟨hE.1.1, h d M s op _ hE hI hq (fun M' g1 h1 => ⟨_, rfl, hQ M' g1 h1⟩)⟩⟩
variable {M : Mem} {Q : Option Value → Mem → Prop}
theorem w_joinP (d : Nat) (hE : RdE M r k pa p0 ra r0 L rc wd W) {s : PSt} (hI : RdI M r p0 rc W s) (hc : q_c s < 60) {f p a : Nat} {mb : Option Nat} (hf : 2 ≤ f) (ha : a < q_c s) (hb : ∀ x, mb = some x → x < q_c s) (hb2 : mb = none → f < 3 ∨ 5 < f)
    (hQ : ∀ M', FrP M M' (RPF r p0) → RdI M' r p0 rc W (enP s (f, p, a, mb.getD 0, 0, p_s (q_D s a) ||| oSD (q_D s) mb, s0D, s0D)) → Q (some (.int (nI (q_c s)))) M') :
    Call G (d + 2) 0 0 mX5_join [.ref r, .int (nI f), .int (nI p), .int (nI a), .int (nbI mb)] M Q := by
  have hr : r < p0 := by have := hE.1.2.2.2.2.2.2.2; omega
  have h256 : p_s (q_D s a) ||| oSD (q_D s) mb < 256 := by
    refine or_256 (hI.2.1.2.1 a ha) ?_
    cases mb with
    | none => show 0 < 256; omega
    | some x => exact hI.2.1.2.1 x (hb x rfl)
  refine w_join d hE hI hc (a := some a) (b := mb) (fun x e => by cases e; exact ha) hb (fun M' g k1 k2 k3 k4 k5 k6 k8 => hQ M' (g.R (fun q hq => part_R hc (by simp only [List.mem_cons, List.not_mem_nil, or_false] at hq ⊢; omega))) (hI.endP hr hc (g.wk (by simp)) k1 k2 ⟨k3, k4, k8, fun c => ?_, fun c => ?_, fun _ => k5, fun c => ?_⟩ h256))
  · have : f = 0 := c; omega
  · have : f ≤ 1 := c; omega
  · cases mb with
    | none => have : 3 ≤ f ∧ f ≤ 5 := c; have := hb2 rfl; omega
    | some x => exact k6
theorem fm80_bad {d : Nat} {lev dep op key form i : Int32} {z8 z9 : Option Value} (h8 : c1 z8 = true) (h9 : c1 z9 = true) (h : Q (some (.int (-1))) M) : LX5_formula_80 G d 0 0 r lev dep op key form (-1) i z8 z9 M Q :=
  vX5_formula_80 _ _ _ _ _ _ _ _ _ _ h8 h9 ⟨fun _ => h, fun _ => ⟨fun _ => h, fun c => absurd (by decide) c⟩⟩
theorem RdI.roV0 {a : Nat} (ha : a < 2 ^ 20) : ¬ nI a < 0 ∧ 0 ≤ nI a := by
  rw [show (0 : Int32) = nI 0 from rfl, nI_ltI (by omega) (by omega), nI_leI (by omega) (by omega)]
  omega
theorem kd_le {s : PSt} (h : GdT L (q_l s)) : kdT (q_l s) ≤ 18 := by
  by_cases c : kdT (q_l s) = 0
  · omega
  · exact (gd_tail h c).2.2.2.2.1
/-- or, and: the left ones first -/
theorem w_lev {n y lev key form : Nat} (hlev : (lev = 1 ∧ key = 9 ∧ form = 4) ∨ (lev = 2 ∧ key = 8 ∧ form = 3)) {g : PSt → PRt} (hg : SgP L g) (h : ∀ d, FmC G r k pa p0 ra r0 L rc wd W n (lev + 1) (d + (y + 2)) g) (d : Nat) :
    FmC G r k pa p0 ra r0 L rc wd W n lev (d + (y + 3)) (fun s => match g s with | .inl p => .inl p | .inr (a, s1) => lpG L g key form 120 a s1) := by
  intro M s op Q hE hI hq hQ
  have hL := hE.2.2.2.2.2
  have hop := hq.op hL
  have hr : r < p0 := by have := hE.1.2.2.2.2.2.2.2; omega
  have hlk : 2 ≤ lnK key ∧ key ≤ 10 ∧ 0 < key ∧ 3 ≤ form ∧ form ≤ 4 ∧ 1 ≤ lev ∧ lev ≤ 2 := by
    rcases hlev with ⟨rfl, rfl, rfl⟩ | ⟨rfl, rfl, rfl⟩ <;> decide
  obtain ⟨lk1, lk2, lk3, lk4, lk5, lk6, lk7⟩ := hlk
  have loop : ∀ n' i a s M' z8 z9, c1 z8 = true → c1 z9 = true → i + n' = 120 → RdI M' r p0 rc W s → RdQ L n op s → a < q_c s → FrP M M' (RPF r p0) → (∀ M'', FrP M M'' (RPF r p0) → RdO M'' r p0 rc L W (lpG L g key form n' a s) → Q (some (.int (roV (lpG L g key form n' a s)))) M'') → LX5_formula_80 G (d + (y + 2)) 0 0 r (nI lev) (nI (10 - n)) (nI op) (nI key) (nI form) (nI a) (nI i) z8 z9 M' Q := by
    intro n'
    induction n' with
    | zero =>
      intro i a s M' z8 z9 h8 h9 hi hI hq ha g0 hQ
      exact vX5_formula_80 _ _ _ _ _ _ _ _ _ _ h8 h9 ⟨fun _ => hQ M' g0 hI, fun c => absurd (by rw [show i = 120 by omega]; decide) c⟩
    | succ n' ih =>
      intro i a s M' z8 z9 h8 h9 hi hI hq ha g0 hQ
      have hop' := hq.op hL
      have hE' := hE.fr g0
      refine vX5_formula_80 _ _ _ _ _ _ _ _ _ _ h8 h9 ⟨fun c => absurd c (nI_ge (a := i) (b := 120) (by omega) (by omega)), fun _ => ⟨fun c => absurd c (RdI.roV0 (by omega)).1, fun _ => ⟨hE'.1.1, w_peek (d + (y + 1)) hE' hI.1.2.2.1 ⟨_, rfl, ?_⟩⟩⟩⟩
      have hkd := kd_le hq.1
      rw [nI_eq (by omega) (by omega)]
      refine ⟨fun c => ?_, fun c => ⟨hE'.1.1, w_placeT (d + (y + 1)) hE' hI.1.2.2.1 ⟨_, rfl, hE'.1.1, ?_⟩⟩⟩
      · have e : lpG L g key form (n' + 1) a s = .inr (a, s) := by unfold lpG; rw [if_neg c]
        rw [e] at hQ
        exact hQ M' g0 hI
      rintro M13 rfl
      have g13 : Fr M' (x_si M' r 5 (x_i M' r 5 + 1)) [r] := Fr.rf.si (by simp)
      have g13' := g0.tr (g13.R1 (p0 := p0)) (fun _ h => h)
      have hI13 := hI.si5 hr (show kdT (q_l s) ≠ 0 by omega) hE.len
      obtain ⟨t1, t2, t3, -⟩ := gd_tail hq.1 (show kdT (q_l s) ≠ 0 by omega)
      rw [c] at t2
      have hq13 : RdQ L n op (tlS s) := ⟨t1, by have := hq.2.1; show 2 * q_c s ≤ plT L (q_l s).tail; omega, by have := hq.2.2; show _ ≤ plT L (q_l s).tail + 50; omega⟩
      refine ⟨fun _ => ?_, fun c0 => absurd c0 (by rw [show (0 : Int32) = nI 0 from rfl, nI_eq (by omega) (by omega)]; omega)⟩
      rw [nI_1, nI_1]
      have estep : lpG L g key form (n' + 1) a s = (match g (tlS s) with | .inl p => .inl p | .inr (b, s1) => lpG L g key form n' (q_c s1) (jnP form (plT L (q_l s)) a b s1)) := by
        show (if kdT (q_l s) = key then _ else _) = _
        rw [if_pos c]
        rfl
      rw [estep] at hQ
      refine h d (x_si M' r 5 (x_i M' r 5 + 1)) (tlS s) op _ (hE.fr g13') hI13 hq13 (fun M16 g16 h16 => ?_)
      have g16' := g13'.tr g16 (fun _ h => h)
      have hE16 := hE.fr g16'
      cases hgs : g (tlS s) with
      | inl p =>
        rw [hgs] at h16 hQ
        exact ⟨_, rfl, fun c => absurd (show (0 : Int32) ≤ -1 from c) (by decide), fun _ => fm80_bad rfl rfl (hQ M16 g16' h16)⟩
      | inr bs =>
        obtain ⟨b, s1⟩ := bs
        rw [hgs] at h16 hQ
        obtain ⟨⟨w1, w2, w3, w4, w5, w6⟩, v1, v2, v3, v4⟩ := hg (tlS s) b s1 t1 hgs
        have e4 : q_l (tlS s) = (q_l s).tail := rfl
        have e5 : q_c (tlS s) = q_c s := rfl
        simp only [e4, e5] at w2 w3 w4 w5 v1 v2 v3
        have hq2 := hq.2.1
        have hq3 := hq.2.2
        have hle1 := gd_le _ w1
        have hc1 : q_c s1 < 60 := by omega
        refine ⟨_, rfl, fun _ => ⟨hE16.1.1, ?_⟩, fun c => absurd (RdI.roV0 (a := b) (by omega)).2 c⟩
        refine w_joinP (mb := some b) (d + y) hE16 h16 hc1 (by omega) (show a < q_c s1 by omega) (fun x e => by cases e; exact v4) (fun e => by cases e) (fun M21 g21 h21 => ⟨_, rfl, ?_⟩)
        refine ih (i + 1) (q_c s1) (jnP form (plT L (q_l s)) a b s1) M21 _ _ rfl rfl (by omega) h21 ⟨w1, ?_, ?_⟩ (Nat.lt_succ_self _) (g16'.tr g21 (fun _ h => h)) hQ
        · show 2 * (q_c s1 + 1) ≤ plT L (q_l s1); omega
        · show _ ≤ plT L (q_l s1) + 50; omega
  have h44 : LX5_formula_44 G (d + (y + 2)) 0 0 r (nI lev) (nI (10 - n)) (nI op) (nI key) M Q := by
    have call : Call G (d + (y + 2)) 0 0 mX5_formula [.ref r, .int (nI lev + 1), .int (nI (10 - n)), .int (nI op)] M (fun r4 M5 => ∃ v6 : Int32, r4 = some (.int v6) ∧ LX5_formula_80 G (d + (y + 2)) 0 0 r (nI lev) (nI (10 - n)) (nI op) (nI key) (nI form) v6 0 none none M5 Q) := by
      rw [nI_1]
      refine h d M s op _ hE hI hq (fun M5 g5 h5 => ⟨_, rfl, ?_⟩)
      cases hgs : g s with
      | inl p =>
        simp only [hgs] at h5 hQ
        exact fm80_bad rfl rfl (hQ M5 g5 h5)
      | inr bs =>
        obtain ⟨b, s1⟩ := bs
        simp only [hgs] at h5 hQ
        obtain ⟨⟨w1, w2, w3, w4, w5, w6⟩, v1, v2, v3, v4⟩ := hg s b s1 hq.1 hgs
        have hq2 := hq.2.1
        have hq3 := hq.2.2
        exact loop 120 0 b s1 M5 none none rfl rfl (Nat.zero_add _) h5 ⟨w1, by omega, by omega⟩ v4 g5 hQ
    rcases hlev with ⟨rfl, rfl, rfl⟩ | ⟨rfl, rfl, rfl⟩
    · exact vX5_formula_44 _ _ _ _ _ ⟨fun _ => ⟨fun c => absurd rfl c, fun _ => ⟨hE.1.1, call⟩⟩, fun c => absurd c (by decide)⟩
    · exact vX5_formula_44 _ _ _ _ _ ⟨fun _ => ⟨fun _ => ⟨hE.1.1, call⟩, fun c => absurd c (by decide)⟩, fun c => absurd c (by decide)⟩
  have h40 : nI op ≤ 40 := by rw [show (40 : Int32) = nI 40 from rfl, nI_leI (by omega) (by omega)]; omega
  rcases hlev with ⟨rfl, rfl, rfl⟩ | ⟨rfl, rfl, rfl⟩
  · exact eX5_formula r _ _ _ ⟨fun _ => ⟨fun _ => ⟨fun _ => ⟨fun c => absurd rfl c, fun _ => h44⟩, fun c => absurd c (by decide)⟩, fun c => absurd h40 c⟩, fun c => absurd (by decide) c⟩
  · exact eX5_formula r _ _ _ ⟨fun _ => ⟨fun _ => ⟨fun _ => ⟨fun _ => h44, fun c => absurd c (by decide)⟩, fun c => absurd c (by decide)⟩, fun c => absurd h40 c⟩, fun c => absurd (by decide) c⟩
/-- so: the right one first -/
theorem w_lev0 {n y : Nat} {g : PSt → PRt} (hg : SgP L g) (h : ∀ d, FmC G r k pa p0 ra r0 L rc wd W n 1 (d + (y + 2)) (orG L g)) : ∀ f d, ∀ (M : Mem) (s : PSt) (op : Nat) (Q : Option Value → Mem → Prop), (q_l s).length < f → RdE M r k pa p0 ra r0 L rc wd W → RdI M r p0 rc W s → RdQ L n op s → (∀ M', FrP M M' (RPF r p0) → RdO M' r p0 rc L W (soG L g f s) → Q (some (.int (roV (soG L g f s)))) M') → Call G (d + (y + 2) + f) 0 0 mX5_formula [.ref r, .int (nI 0), .int (nI (10 - n)), .int (nI op)] M Q := by
  intro f
  induction f with
  | zero => intro d M s op Q hlen; omega
  | succ f ih =>
    intro d M s op Q hlen hE hI hq hQ
    have hL := hE.2.2.2.2.2
    have hop := hq.op hL
    have hr : r < p0 := by have := hE.1.2.2.2.2.2.2.2; omega
    have h40 : nI op ≤ 40 := by rw [show (40 : Int32) = nI 40 from rfl, nI_leI (by omega) (by omega)]; omega
    have e0 : soG L g (f + 1) s = (match orG L g s with | .inl p => .inl p | .inr (a, s1) => if kdT (q_l s1) = 10 then (match soG L g f (tlS s1) with | .inl p => .inl p | .inr (b, s2) => .inr (q_c s2, jnP 5 (plT L (q_l s1)) a b s2)) else .inr (a, s1)) := rfl
    rw [e0] at hQ
    rw [show d + (y + 2) + (f + 1) = (d + (y + 2) + f) + 1 from rfl]
    refine eX5_formula r _ _ _ ⟨fun _ => ⟨fun _ => ⟨fun c => absurd rfl c, fun _ => ?_⟩, fun c => absurd h40 c⟩, fun c => absurd (by decide) c⟩
    refine vX5_formula_44 _ _ _ _ _ ⟨fun c => absurd rfl c, fun _ => ⟨hE.1.1, ?_⟩⟩
    have e1 : d + (y + 2) + f = (d + f) + (y + 2) := by omega
    have h1 := h (d + f)
    rw [← e1] at h1
    refine h1 M s op _ hE hI hq (fun M5 g5 h5 => ⟨_, rfl, ?_⟩)
    cases hgs : orG L g s with
    | inl p =>
      rw [hgs] at h5 hQ
      exact fm80_bad rfl rfl (hQ M5 g5 h5)
    | inr bs =>
      obtain ⟨a, s1⟩ := bs
      rw [hgs] at h5 hQ
      simp only at hQ
      obtain ⟨⟨w1, w2, w3, w4, w5, w6⟩, v1, v2, v3, v4⟩ := orG_pg hg s a s1 hq.1 hgs
      have hq2 := hq.2.1
      have hq3 := hq.2.2
      have hE5 := hE.fr g5
      have hle := gd_le _ w1
      have hkd := kd_le w1
      refine vX5_formula_80 _ _ _ _ _ _ _ _ _ _ rfl rfl ⟨fun c => absurd c (by decide), fun _ => ⟨fun c => absurd c (RdI.roV0 (a := a) (by omega)).1, fun _ => ⟨hE5.1.1, ?_⟩⟩⟩
      rw [show d + (y + 2) + f = (d + (y + 1) + f) + 1 by omega]
      refine w_peek (d + (y + 1) + f) hE5 h5.1.2.2.1 ⟨_, rfl, ?_⟩
      rw [show (10 : Int32) = nI 10 from rfl, nI_eq (by omega) (by omega)]
      refine ⟨fun c => ?_, fun c => ⟨hE5.1.1, w_placeT (d + (y + 1) + f) hE5 h5.1.2.2.1 ⟨_, rfl, hE5.1.1, ?_⟩⟩⟩
      · rw [if_neg c] at hQ
        exact hQ M5 g5 h5
      rw [if_pos c] at hQ
      rintro M13 rfl
      have g13 : Fr M5 (x_si M5 r 5 (x_i M5 r 5 + 1)) [r] := Fr.rf.si (by simp)
      have g13' := g5.tr (g13.R1 (p0 := p0)) (fun _ h => h)
      have hI13 := h5.si5 hr (show kdT (q_l s1) ≠ 0 by omega) hE.len
      obtain ⟨t1, t2, t3, -⟩ := gd_tail w1 (show kdT (q_l s1) ≠ 0 by omega)
      rw [c] at t2
      have k10 : lnK 10 = 2 := rfl
      have hq13 : RdQ L n (op + 1) (tlS s1) := ⟨t1, by show 2 * q_c s1 ≤ plT L (q_l s1).tail; omega, by show _ ≤ plT L (q_l s1).tail + 50; omega⟩
      refine ⟨fun c0 => absurd rfl c0, fun _ => ?_⟩
      rw [nI_1, show d + (y + 1) + f + 1 = d + (y + 2) + f by omega]
      refine ih d _ (tlS s1) (op + 1) _ (by show (q_l s1).tail.length < f; omega) (hE.fr g13') hI13 hq13 (fun M24 g24 h24 => ?_)
      have g24' := g13'.tr g24 (fun _ h => h)
      have hE24 := hE.fr g24'
      cases hgr : soG L g f (tlS s1) with
      | inl p =>
        rw [hgr] at h24 hQ
        exact ⟨_, rfl, fun c => absurd (show (0 : Int32) ≤ -1 from c) (by decide), fun _ => fm80_bad rfl rfl (hQ M24 g24' h24)⟩
      | inr bs =>
        obtain ⟨b, s2⟩ := bs
        rw [hgr] at h24 hQ
        obtain ⟨⟨⟨x1, x2, x3, x4, x5, x6⟩, y1, y2, y3, y4⟩, y5⟩ := soG_pg hg f (tlS s1) b s2 t1 hgr
        have e4 : q_l (tlS s1) = (q_l s1).tail := rfl
        have e5 : q_c (tlS s1) = q_c s1 := rfl
        simp only [e4, e5] at x2 x3 x4 x5 y1 y2 y3
        have hle2 := gd_le _ x1
        have hc2 : q_c s2 < 60 := by omega
        refine ⟨_, rfl, fun _ => ⟨hE24.1.1, ?_⟩, fun c => absurd (RdI.roV0 (a := b) (by omega)).2 c⟩
        rw [show d + (y + 2) + f = (d + y + f) + 2 by omega]
        refine w_joinP (f := 5) (mb := some b) (d + y + f) hE24 h24 hc2 (by omega) (show a < q_c s2 by omega) (fun x e => by cases e; exact y4) (fun e => by cases e) (fun M21 g21 h21 => ⟨_, rfl, ?_⟩)
        have hE21 := hE24.fr g21
        have hkd2 := kd_le x1
        refine vX5_formula_80 _ _ _ _ _ _ _ _ _ _ rfl rfl ⟨fun c => absurd c (by decide), fun _ => ⟨fun c => absurd c (RdI.roV0 (a := q_c s2) (by omega)).1, fun _ => ⟨hE21.1.1, ?_⟩⟩⟩
        rw [show d + y + f + 2 = (d + (y + 1) + f) + 1 by omega]
        refine w_peek (d + (y + 1) + f) hE21 (l := q_l s2) h21.1.2.2.1 ⟨_, rfl, ?_⟩
        rw [nI_eq (by omega) (by omega)]
        exact ⟨fun _ => hQ M21 (g24'.tr g21 (fun _ h => h)) h21, fun c => absurd c y5⟩
end FormC
