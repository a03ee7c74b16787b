/-! ===== the class: what is told of a text ===== -/
section QuestC
/-- the first part with more than three names -/
def crF (D : Nat → PD) : Nat → Nat → Option Nat
  | 0, _ => none
  | n + 1, j => if 3 < pc (p_s (D j)) then some (p_p (D j)) else crF D n (j + 1)
/-- the fault of what was read: its kind, its place -/
def ftR : PRt → Nat × Option Nat
  | .inl p => (1, some p)
  | .inr (_, s) => match q_o s with
    | some p => (2, some p)
    | none => match crF (q_D s) (q_c s) 0 with
      | some p => (3, some p)
      | none => (0, none)
theorem crF_no {D : Nat → PD} : ∀ n j, crF D n j = none → ∀ i, j ≤ i → i < j + n → pc (p_s (D i)) ≤ 3
  | 0, j, _, i, h1, h2 => by omega
  | n + 1, j, h, i, h1, h2 => by
    unfold crF at h
    by_cases c : 3 < pc (p_s (D j))
    · rw [if_pos c] at h; cases h
    · rw [if_neg c] at h
      by_cases e : i = j
      · rw [e]; omega
      · exact crF_no n (j + 1) h i (by omega) (by omega)
theorem crF_le {D : Nat → PD} {L : Nat} : ∀ n j, (∀ i, j ≤ i → i < j + n → p_p (D i) ≤ L) → ∀ p, crF D n j = some p → p ≤ L
  | 0, j, _, p, h => by cases h
  | n + 1, j, hp, p, h => by
    unfold crF at h
    by_cases c : 3 < pc (p_s (D j))
    · rw [if_pos c] at h
      cases h
      exact hp j (Nat.le_refl _) (by omega)
    · rw [if_neg c] at h
      exact crF_le n (j + 1) (fun i h1 h2 => hp i (by omega) (by omega)) p h
variable {G : GG} {M : Mem} {r k pa p0 ra r0 L rc : Nat} {wd : Nat → Nat} {W : List Tk} {Q : Option Value → Mem → Prop}
theorem w_crowdedA (d : Nat) (hE : RdE M r k pa p0 ra r0 L rc wd W) {c : Nat} (hc : c ≤ 60) (h4 : x_i M r 4 = nI c) (hQ : ∀ v, Q (some (.int v)) M) : Call G (d + 2) 0 0 mX5_crowded [.ref r] M Q := by
  obtain ⟨a1, a2, a3, a4, a5, a6, a7, a8⟩ := hE.1
  have key : ∀ n j, j + n = c → LX5_crowded_2 G (d + 1) 0 0 r (nI j) M Q := by
    intro n
    induction n with
    | zero =>
      intro j hj
      exact vX5_crowded_2 _ _ ⟨a1, fun _ => hQ _, fun x => absurd (by rw [h4, nI_leI (by omega) (by omega)]; omega) x⟩
    | succ n ih =>
      intro j hj
      obtain ⟨e1, e2⟩ := a6.2 j (by omega)
      have hcl : (nI j).toNatClampNeg = j := nI_clamp (by omega)
      refine vX5_crowded_2 _ _ ⟨a1, fun _ => hQ _, fun _ => ⟨pa, a3, by rw [a6.1]; exact ⟨by decide, by decide⟩, by rw [a6.1]; exact vp_in_nI (show j < 60 by omega) (by omega), p0 + 8 * j, by rw [hcl]; exact e1, e2.1, eJ6_bitCount_0f7a4 _ ⟨_, rfl, fun _ => ?_, fun _ => ⟨a1, pa, a3, by rw [a6.1]; exact ⟨by decide, by decide⟩, by rw [a6.1]; exact vp_in_nI (show j < 60 by omega) (by omega), p0 + 8 * j, by rw [hcl]; exact e1, e2.1, hQ _⟩⟩⟩⟩
      rw [nI_1]
      exact ih (j + 1) (by omega)
  exact eX5_crowded r (key c 0 (Nat.zero_add _))
theorem w_crowded (d : Nat) (hE : RdE M r k pa p0 ra r0 L rc wd W) {s : PSt} (hI : RdI M r p0 rc W s) (hQ : Q (some (.int (nbI (crF (q_D s) (q_c s) 0)))) M) : Call G (d + 2) 0 0 mX5_crowded [.ref r] M Q := by
  obtain ⟨a1, a2, a3, a4, a5, a6, a7, a8⟩ := hE.1
  have h4 := hI.1.2.1
  have hc := hI.2.1.1
  have key : ∀ n j, j + n = q_c s → crF (q_D s) (q_c s) 0 = crF (q_D s) n j → LX5_crowded_2 G (d + 1) 0 0 r (nI j) M Q := by
    intro n
    induction n with
    | zero =>
      intro j hj hf
      rw [hf] at hQ
      exact vX5_crowded_2 _ _ ⟨a1, fun _ => hQ, fun x => absurd (by rw [h4, nI_leI (by omega) (by omega)]; omega) x⟩
    | succ n ih =>
      intro j hj hf
      obtain ⟨e1, e2⟩ := a6.2 j (by omega)
      have hcl : (nI j).toNatClampNeg = j := nI_clamp (by omega)
      have hP := hI.2.2 j (by omega)
      have h256 := hI.2.1.2.1 j (by omega)
      have hp8 := pc_le (p_s (q_D s j))
      refine vX5_crowded_2 _ _ ⟨a1, fun x => absurd x (by rw [h4]; exact nI_ge (a := j) (b := q_c s) (by omega) (by omega)), fun _ => ⟨pa, a3, by rw [a6.1]; exact ⟨by decide, by decide⟩, by rw [a6.1]; exact vp_in_nI (show j < 60 by omega) (by omega), p0 + 8 * j, by rw [hcl]; exact e1, e2.1, ?_⟩⟩
      rw [hP.2.2.1]
      refine w_bitCount d h256 ⟨_, rfl, ?_⟩
      rw [show (3 : Int32) = nI 3 from rfl, nI_leI (by omega) (by omega)]
      refine ⟨fun c => ?_, fun c => ⟨a1, pa, a3, by rw [a6.1]; exact ⟨by decide, by decide⟩, by rw [a6.1]; exact vp_in_nI (show j < 60 by omega) (by omega), p0 + 8 * j, by rw [hcl]; exact e1, e2.1, ?_⟩⟩
      · rw [nI_1]
        exact ih (j + 1) (by omega) (by rw [hf]; show (if _ then _ else _) = _; rw [if_neg (by omega)])
      · rw [hP.2.1]
        have : crF (q_D s) (q_c s) 0 = some (p_p (q_D s j)) := by rw [hf]; show (if _ then _ else _) = _; rw [if_pos (by omega)]
        rw [this] at hQ
        exact hQ
  exact eX5_crowded r (key (q_c s) 0 (Nat.zero_add _) rfl)
theorem w_blameQ (d : Nat) {q : Nat} (hq : (x_h M q).1 = 20) {f p : Nat} (hQ : Q none (x_si (x_si M q 1 (nI f)) q 2 (nI p))) : Call G (d + 1) 0 0 mX4_blame [.ref q, .int (nI f), .int (nI p)] M Q := by
  refine eX4_blame q _ _ ⟨hq, ?_⟩
  rintro M2 rfl M3 rfl
  exact hQ
/-- what the question q then tells -/
def QuT (M : Mem) (q p0 : Nat) (res : PRt) : Prop := x_i M q 1 = nI (ftR res).1 ∧ x_i M q 2 = nbI (ftR res).2 ∧ x_i M q 3 = -1 ∧ ∀ a s, res = .inr (a, s) → (ftR res).1 = 0 → x_i M q 4 = nI (p_s (q_D s (q_c s - 1))) ∧ x_i M q 5 = nI (q_c s) ∧ x_i M q 6 = nI (q_m s) ∧ ∀ j, j < q_c s → PaI M (p0 + 8 * j) (q_D s j)
def clQ (M : Mem) (q : Nat) : Mem := x_si (x_si (x_si (x_si (x_si (x_si M q 1 0) q 2 (-1)) q 3 (-1)) q 4 0) q 5 0) q 6 0
theorem clQ_fr {q : Nat} : Fr M (clQ M q) [q] := (((((Fr.rf.si (by simp)).si (by simp)).si (by simp)).si (by simp)).si (by simp)).si (by simp)
theorem RdI.fq {M' : Mem} {q : Nat} {s : PSt} (h : RdI M r p0 rc W s) (g : Fr M M' [q]) (h1 : q ≠ r) (h2 : q < p0 ∨ p0 + 480 ≤ q) : RdI M' r p0 rc W s := by
  have er : x_i M' r = x_i M r := g.i (by rw [List.mem_singleton]; omega)
  have hc := h.2.1.1
  refine ⟨?_, h.2.1, fun j hj => (h.2.2 j hj).eq (fun x h3 h4 => g.i (by rw [List.mem_singleton]; omega))⟩
  have := h.1
  unfold RdH AtI at this ⊢
  rw [er]
  exact this
theorem RdE.fq {M' : Mem} {q : Nat} (h : RdE M r k pa p0 ra r0 L rc wd W) (g : Fr M M' [q]) (h1 : q < k ∨ k + 3 < q) (h2 : ∀ i, i < rc → q ≠ r0 + 8 * i + 1) : RdE M' r k pa p0 ra r0 L rc wd W := by
  obtain ⟨a1, a2, a3, a4, a5⟩ := h
  refine ⟨a1.eq g.h g.r, ?_, a3, fun i hi => ?_, a5⟩
  · unfold TkA TkC at a2 ⊢
    rw [g.i (show k ∉ [q] by rw [List.mem_singleton]; omega), g.i (show k + 1 ∉ [q] by rw [List.mem_singleton]; omega), g.i (show k + 2 ∉ [q] by rw [List.mem_singleton]; omega), g.i (show k + 3 ∉ [q] by rw [List.mem_singleton]; omega)]
    exact a2
  · rw [g.i (by rw [List.mem_singleton]; exact fun e => h2 i hi e.symm)]
    exact a4 i hi
theorem w_tell (d : Nat) (hE : RdE M r k pa p0 ra r0 L rc wd W) {q : Nat} (hq : (x_h M q).1 = 20) (hqr : q ≠ r) (hqk : q < k ∨ k + 3 < q) (hqp : q < p0 ∨ p0 + 480 ≤ q) (hq0 : ∀ i, i < rc → q ≠ r0 + 8 * i + 1) {res : PRt} (hO : RdO M r p0 rc L W res) (hpl : ∀ p, res = .inl p → p ≤ 120) (hW : ∀ a s, res = .inr (a, s) → 0 < q_c s ∧ ∀ j, j < q_c s → p_p (q_D s j) ≤ L)
    (hQ : ∀ M', Fr M M' [q] → QuT M' q p0 res → Q none M') : Call G (d + 3) 0 0 mX5_tell [.ref r, .ref q] M Q := by
  have hL := hE.2.2.2.2.2
  refine eX5_tell r q ⟨hq, eX4_clear q ⟨hq, ?_⟩⟩
  rintro M2 rfl M3 rfl M4 rfl M5 rfl M6 rfl M7 rfl
  have g : Fr M (clQ M q) [q] := clQ_fr
  change _ ∧ _
  refine ⟨rfl, hE.1.1, ?_⟩
  show Call G (d + 2) 0 0 mX5_crowded [.ref r] (clQ M q) _
  have hE' := hE.fq g hqk hq0
  have q1 : x_i (clQ M q) q 1 = 0 ∧ x_i (clQ M q) q 2 = -1 ∧ x_i (clQ M q) q 3 = -1 := by
    unfold clQ
    refine ⟨?_, ?_, ?_⟩
    · rw [xi_nk (by omega), xi_nk (by omega), xi_nk (by omega), xi_nk (by omega), xi_nk (by omega), xi_eq]
    · rw [xi_nk (by omega), xi_nk (by omega), xi_nk (by omega), xi_nk (by omega), xi_eq]
    · rw [xi_nk (by omega), xi_nk (by omega), xi_nk (by omega), xi_eq]
  have bl : ∀ (f : Nat) (p : Nat), ftR res = (f, some p) → 0 < f → Q none (x_si (x_si (clQ M q) q 1 (nI f)) q 2 (nI p)) := by
    intro f p e hf
    refine hQ _ ((g.si (by simp)).si (by simp)) ⟨?_, ?_, ?_, fun a s e2 e3 => ?_⟩
    · rw [xi_nk (by omega), xi_eq, e]
    · rw [xi_eq, e]; rfl
    · rw [xi_nk (by omega), xi_nk (by omega)]; exact q1.2.2
    · rw [e] at e3
      have : f = 0 := e3
      omega
  cases res with
  | inl p =>
    obtain ⟨f1, ⟨c, c1, c2⟩, i, f3, f4, f5⟩ := hO
    have er : ∀ t, x_i (clQ M q) r t = x_i M r t := fun t => by rw [g.i (by rw [List.mem_singleton]; omega)]
    refine w_crowdedA d hE' c1 (by rw [er]; exact c2) (fun v => ⟨v, rfl, hE'.1.1, ?_⟩)
    rw [er, f4]
    have hlen := hE.len
    refine ⟨fun x => absurd x (nI_m1 (by omega)), fun _ => ⟨k, hE'.1.2.1, hE'.1.2.2.2.2.1.1, k + 2, hE'.1.2.2.2.2.1.2.2.1, by rw [hE'.1.2.2.2.2.1.2.2.2.2.2.1], by rw [hE'.1.2.2.2.2.1.2.2.2.2.2.1]; exact vp_in_nI (show i < 121 by omega) (by omega), hq, ?_⟩⟩
    rw [nI_clamp (by omega), (hE'.2.1.2.2 i f3).2.1, f5]
    exact w_blameQ (M := clQ M q) (Q := fun r M' => r = none ∧ Q none M') (f := 1) (p := p) (d + 1) hq ⟨rfl, bl 1 p rfl (by omega)⟩
  | inr as =>
    obtain ⟨a, s⟩ := as
    have hI : RdI M r p0 rc W s := hO
    have hI' := hI.fq g hqr hqp
    obtain ⟨hc0, hpp⟩ := hW a s rfl
    have hc60 := hI.2.1.1
    refine w_crowded d hE' hI' ⟨_, rfl, hE'.1.1, ?_⟩
    obtain ⟨⟨b1, b2, b3, b4, b5, b6, b7⟩, ⟨d1, d2, d3, d4, d5⟩, bP⟩ := hI'
    rw [b4, b5]
    refine ⟨fun _ => ?_, fun x => absurd rfl x⟩
    cases ho : q_o s with
    | some p =>
      have hp := d5 p ho
      refine ⟨fun x => absurd x (nI_m1 (by omega)), fun _ => ⟨hq, w_blameQ (M := clQ M q) (Q := fun r M' => r = none ∧ Q none M') (f := 2) (p := p) (d + 1) hq ⟨rfl, bl 2 p ?_ (by omega)⟩⟩⟩
      show (match q_o s with | some p => _ | none => _) = _
      rw [ho]
    | none =>
      have e1 : ftR (.inr (a, s)) = (match crF (q_D s) (q_c s) 0 with | some p => (3, some p) | none => (0, none)) := by
        show (match q_o s with | some p => _ | none => _) = _
        rw [ho]
      refine ⟨fun _ => ?_, fun x => absurd rfl x⟩
      cases hc : crF (q_D s) (q_c s) 0 with
      | some p =>
        have hp := crF_le (L := L) (q_c s) 0 (fun i h1 h2 => hpp i (by omega)) p hc
        refine ⟨fun x => absurd x (nI_m1 (by omega)), fun _ => ⟨hq, w_blameQ (M := clQ M q) (Q := fun r M' => r = none ∧ Q none M') (f := 3) (p := p) (d + 1) hq ⟨rfl, bl 3 p ?_ (by omega)⟩⟩⟩
        rw [e1, hc]
      | none =>
        rw [hc] at e1
        refine ⟨fun _ => ⟨fun x => absurd x (by rw [b2, show (0 : Int32) = nI 0 from rfl, nI_leI (by omega) (by omega)]; omega), fun _ => ?_⟩, fun x => absurd rfl x⟩
        have e4 : x_i (clQ M q) r 4 - 1 = nI (q_c s - 1) := by rw [b2]; exact pk_sub (b := 1) (by omega)
        rw [e4]
        obtain ⟨z1, z2⟩ := hE'.1.2.2.2.2.2.1.2 (q_c s - 1) (by omega)
        refine ⟨pa, hE'.1.2.2.1, by rw [hE'.1.2.2.2.2.2.1.1]; exact ⟨by decide, by decide⟩, by rw [hE'.1.2.2.2.2.2.1.1]; exact vp_in_nI (show q_c s - 1 < 60 by omega) (by omega), p0 + 8 * (q_c s - 1), by rw [nI_clamp (by omega)]; exact z1, z2.1, hq, ?_⟩
        rintro M19 rfl M20 rfl M21 rfl
        rw [(bP (q_c s - 1) (by omega)).2.2.1]
        have g2 : Fr (clQ M q) (x_si (x_si (x_si (clQ M q) q 4 (nI (p_s (q_D s (q_c s - 1))))) q 5 (x_i (x_si (clQ M q) q 4 (nI (p_s (q_D s (q_c s - 1))))) r 4)) q 6 (x_i (x_si (x_si (clQ M q) q 4 (nI (p_s (q_D s (q_c s - 1))))) q 5 (x_i (x_si (clQ M q) q 4 (nI (p_s (q_D s (q_c s - 1))))) r 4)) r 9)) [q] := ((Fr.rf.si (by simp)).si (by simp)).si (by simp)
        refine hQ _ (g.tr g2 (fun _ h => h)) ⟨?_, ?_, ?_, fun a' s' e2 _ => ?_⟩
        · rw [xi_nk (by omega), xi_nk (by omega), xi_nk (by omega), q1.1, e1]; rfl
        · rw [xi_nk (by omega), xi_nk (by omega), xi_nk (by omega), q1.2.1, e1]; rfl
        · rw [xi_nk (by omega), xi_nk (by omega), xi_nk (by omega)]; exact q1.2.2
        · cases e2
          refine ⟨?_, ?_, ?_, fun j hj => (bP j hj).eq (fun x h1 h2 => g2.i (by rw [List.mem_singleton]; omega))⟩
          · rw [xi_nk (by omega), xi_nk (by omega), xi_eq]
          · rw [xi_nk (by omega), xi_eq, xi_na (Ne.symm hqr)]; exact b2
          · rw [xi_eq, xi_na (Ne.symm hqr), xi_na (Ne.symm hqr)]; exact b7
end QuestC
