/-! ===== the reference: where its reading stands ===== -/
section RStateC
abbrev FRr : List Nat := [38, 39, 40, 41, 42, 43, 44, 45, 46, 47, 66, 67, 68, 69, 70, 71, 72]
abbrev ARr : List Nat := [30, 31, 32, 33, 34, 35, 36, 37, 38, 39, 40, 41, 42, 43, 44, 45, 46, 47]
def RfE (M : Mem) (m L rc : Nat) (t wd : Nat → Nat) : Prop := RxS M m L t ∧ x_i M m 1 = nI rc ∧ rc ≤ 10 ∧ ∀ i, i < rc → x_i M (m + 2) i = nI (wd i) ∧ wd i < 2 ^ 20
def RfB (s : PSt) : Prop := q_c s ≤ 60 ∧ (∀ j, j < q_c s → p_s (q_D s j) < 256) ∧ q_b s < 256 ∧ ∀ p, q_o s = some p → p ≤ 120
def RfH (M : Mem) (m L : Nat) (t : Nat → Nat) (s : PSt) : Prop := RtkI M m L (q_l s) ∧ kdT (q_l s) ≠ 1 ∧ GdT L (q_l s) ∧ (∃ p, p ≤ L ∧ x_i M m 38 = nI p ∧ tl t L p = (q_l s).tail) ∧ x_i M m 42 = 0 ∧ x_i M m 44 = nI (q_b s) ∧ x_i M m 45 = nI (if q_o s = none then 0 else 2) ∧ x_i M m 46 = nbI (q_o s) ∧ x_i M m 47 = nI (q_c s)
def RfI (M : Mem) (m L : Nat) (t : Nat → Nat) (s : PSt) : Prop := RfH M m L t s ∧ RfB s ∧ ∀ j, j < q_c s → ReD M m (q_D s) j ∧ (2 ≤ p_f (q_D s j) → p_l (q_D s j) < j)
def RfG (M : Mem) (m p : Nat) : Prop := RfF M m p ∧ ∃ c, c ≤ 129 ∧ x_i M m 47 = nI c
/-- a token that is none stops it as soon as it is seen -/
def RfX (M : Mem) (m L : Nat) (t : Nat → Nat) (s : PSt) : Prop := (kdT (q_l s) ≠ 1 → RfI M m L t s) ∧ (kdT (q_l s) = 1 → RfG M m (plT L (q_l s)))
def RfO (M : Mem) (m L : Nat) (t : Nat → Nat) (a : Nat) : PRt → Prop
  | .inl p => a < 130 ∧ RfG M m p
  | .inr (b, s) => a < 130 ∧ RfX M m L t s ∧ (kdT (q_l s) ≠ 1 → a = b)
variable {G : GG} {M : Mem} {m L rc : Nat} {t wd : Nat → Nat} {Q : Option Value → Mem → Prop}
theorem RfE.fr {M' : Mem} (h : RfE M m L rc t wd) (g : FrM M M' m FRr ARr) : RfE M' m L rc t wd := by
  obtain ⟨a1, a2, a3, a4⟩ := h
  exact ⟨a1.fr g (by decide) (by decide), by rw [g.fm (by decide)]; exact a2, a3, fun i hi => by rw [g.i (by omega) (by decide)]; exact a4 i hi⟩
theorem RfF.fr {M' : Mem} {p : Nat} {F A : List Nat} (h : RfF M m p) (g : FrM M M' m F A) (h1 : 42 ∉ F) (h2 : 45 ∉ F) (h3 : 46 ∉ F) (h4 : 39 ∉ F) : RfF M' m p := by
  obtain ⟨a1, a2, a3, a4⟩ := h
  exact ⟨by rw [g.fm h1]; exact a1, by rw [g.fm h2]; exact a2, by rw [g.fm h3]; exact a3, by rw [g.fm h4]; exact a4⟩
theorem RfG.fr {M' : Mem} {p : Nat} {F A : List Nat} (h : RfG M m p) (g : FrM M M' m F A) (h1 : 42 ∉ F) (h2 : 45 ∉ F) (h3 : 46 ∉ F) (h4 : 39 ∉ F) (h5 : 47 ∉ F) : RfG M' m p := by
  obtain ⟨a1, c, a2, a3⟩ := h
  exact ⟨a1.fr g h1 h2 h3 h4, c, a2, by rw [g.fm h5]; exact a3⟩
/-- fields and cells that the state does not lie in -/
theorem RfI.fr {M' : Mem} {s : PSt} {F A : List Nat} (h : RfI M m L t s) (g : FrM M M' m F A) (hF : ∀ k ∈ F, k < 38 ∨ k = 43 ∨ 47 < k) (hA : ∀ o ∈ A, o < 30 ∨ 46 < o) : RfI M' m L t s := by
  have f : ∀ k, 38 ≤ k → k ≤ 47 → k ≠ 43 → x_i M' m k = x_i M m k := fun k h1 h2 h3 => g.fm (fun q => by have := hF k q; omega)
  obtain ⟨hH, hB, hP⟩ := h
  refine ⟨?_, hB, fun j hj => ⟨(hP j hj).1.fr g hA, (hP j hj).2⟩⟩
  unfold RfH RtkI at hH ⊢
  rw [f 38 (by omega) (by omega) (by omega), f 39 (by omega) (by omega) (by omega), f 40 (by omega) (by omega) (by omega), f 41 (by omega) (by omega) (by omega), f 42 (by omega) (by omega) (by omega), f 44 (by omega) (by omega) (by omega), f 45 (by omega) (by omega) (by omega), f 46 (by omega) (by omega) (by omega), f 47 (by omega) (by omega) (by omega)]
  exact hH
theorem RfX.fr {M' : Mem} {s : PSt} {F A : List Nat} (h : RfX M m L t s) (g : FrM M M' m F A) (hF : ∀ k ∈ F, k < 38 ∨ k = 43 ∨ 47 < k) (hA : ∀ o ∈ A, o < 30 ∨ 46 < o) : RfX M' m L t s := by
  have n : ∀ k, 38 ≤ k → k ≤ 47 → k ≠ 43 → k ∉ F := fun k h1 h2 h3 q => by have := hF k q; omega
  exact ⟨fun q => (h.1 q).fr g hF hA, fun q => (h.2 q).fr g (n 42 (by omega) (by omega) (by omega)) (n 45 (by omega) (by omega) (by omega)) (n 46 (by omega) (by omega) (by omega)) (n 39 (by omega) (by omega) (by omega)) (n 47 (by omega) (by omega) (by omega))⟩
theorem ur_nextS (d : Nat) (hE : RfE M m L rc t wd) {s : PSt} (hI : RfI M m L t s) (hk : kdT (q_l s) ≠ 0) (hQ : ∀ M', FrM M M' m [38, 39, 40, 41, 42, 45, 46] [] → RfX M' m L t (tlS s) → Q none M') : Call G (d + 4) 0 0 mX12_next [.ref m] M Q := by
  obtain ⟨⟨h1, h2, h3, ⟨p, p1, p2, p3⟩, h5, h6, h7, h8, h9⟩, hB, hP⟩ := hI
  have gd := (gd_tail h3 hk).1
  refine ur_next d hE.1 p1 p2 h5 (fun M' g hn => hQ M' g ⟨fun q => ?_, fun q => ?_⟩)
  · have q' : kdT (q_l s).tail ≠ 1 := q
    obtain ⟨n1, n2⟩ := hn
    rw [p3] at n1
    obtain ⟨g4, r1, r2⟩ := n1 q'
    exact ⟨⟨r1, q', gd, r2, by rw [g4.fm (by decide)]; exact h5, by rw [g4.fm (by decide)]; exact h6, by rw [g4.fm (by decide)]; exact h7, by rw [g4.fm (by decide)]; exact h8, by rw [g4.fm (by decide)]; exact h9⟩, hB, fun j hj => ⟨(hP j hj).1.fr g4 (by decide), (hP j hj).2⟩⟩
  · have q' : kdT (q_l s).tail = 1 := q
    obtain ⟨n1, n2⟩ := hn
    rw [p3] at n2
    have hc := hB.1
    exact ⟨n2 q', q_c s, by omega, by rw [g.fm (by decide)]; exact h9⟩
theorem ur_cannotS (d : Nat) (hE : RfE M m L rc t wd) {s : PSt} (hI : RfI M m L t s) (hQ : ∀ M', FrM M M' m [39, 42, 45, 46] [] → RfG M' m (plT L (q_l s)) → Q none M') : Call G (d + 1) 0 0 mX12_cannot [.ref m] M Q := by
  obtain ⟨⟨h1, h2, h3, h4, h5, h6, h7, h8, h9⟩, hB, hP⟩ := hI
  have hc := hB.1
  exact ur_cannot d hE.1.1.1 (Or.inl ⟨h5, h1.1⟩) (fun M' g f => hQ M' g ⟨f, q_c s, by omega, by rw [g.fm (by decide)]; exact h9⟩)
theorem ur_cannotG (d : Nat) (hs : (x_h M m).1 = 28) {p : Nat} (hG : RfG M m p) (hQ : ∀ M', FrM M M' m [39, 42, 45, 46] [] → RfG M' m p → Q none M') : Call G (d + 1) 0 0 mX12_cannot [.ref m] M Q := by
  obtain ⟨f, c, hc, h47⟩ := hG
  exact ur_cannot d hs (Or.inr f) (fun M' g f' => hQ M' g ⟨f', c, hc, by rw [g.fm (by decide)]; exact h47⟩)
theorem ur_notesS (d : Nat) (hE : RfE M m L rc t wd) {s : PSt} (hI : RfI M m L t s) {p : Nat} (hp : p ≤ 120) (hQ : ∀ M', FrM M M' m [45, 46] [] → RfI M' m L t (stO s (blO (q_o s) p)) → Q none M') : Call G (d + 1) 0 0 mX12_notes [.ref m, .int (nI p)] M Q := by
  obtain ⟨⟨h1, h2, h3, h4, h5, h6, h7, h8, h9⟩, hB, hP⟩ := hI
  have hset : blO (q_o s) p = some p → ∀ M4, M4 = x_si M m 45 2 → ∀ M5, M5 = x_si M4 m 46 (nI p) → Q none M5 := by
    rintro e M4 rfl M5 rfl
    have g : FrM M (x_si (x_si M m 45 2) m 46 (nI p)) m [45, 46] [] := (FrM.rf.sm (by decide)).sm (by decide)
    refine hQ _ g ?_
    rw [e]
    refine ⟨⟨?_, h2, h3, ?_, by rw [g.fm (by decide)]; exact h5, by rw [g.fm (by decide)]; exact h6, by rw [xi_nk (by omega), xi_eq]; rfl, by rw [xi_eq]; rfl, by rw [g.fm (by decide)]; exact h9⟩, ⟨hB.1, hB.2.1, hB.2.2.1, fun q hq => by cases hq; exact hp⟩, fun j hj => ⟨(hP j hj).1.fr g (by decide), (hP j hj).2⟩⟩
    · unfold RtkI
      rw [g.fm (by decide), g.fm (by decide), g.fm (by decide)]
      exact h1
    · rw [g.fm (by decide)]; exact h4
  refine eX12_notes m _ ⟨hE.1.1.1, fun c => absurd h5 c, fun _ => ⟨fun c => ?_, fun c => ?_⟩⟩
  · rw [h7] at c
    have ho : q_o s = none := Classical.byContradiction fun z => by rw [if_neg z] at c; exact absurd c (by decide)
    exact hset (by rw [ho]; rfl)
  · rw [h7] at c
    cases ho : q_o s with
    | none => rw [if_pos ho] at c; exact absurd rfl c
    | some q =>
      have hq := hB.2.2.2 q ho
      rw [h8, ho]
      have e : nbI (some q) ≤ nI p ↔ q ≤ p := nI_leI (by omega) (by omega)
      rw [e]
      refine ⟨fun c2 => hQ M FrM.rf ?_, fun c2 => hset ?_⟩
      · have e2 : blO (q_o s) p = q_o s := by rw [ho]; show some (min p q) = some q; rw [Nat.min_eq_right c2]
        rw [e2]
        exact ⟨⟨h1, h2, h3, h4, h5, h6, h7, h8, h9⟩, hB, hP⟩
      · rw [ho]
        show some (min p q) = some p
        rw [Nat.min_eq_left (by omega)]
theorem ur_notesG (d : Nat) (hs : (x_h M m).1 = 28) {p : Nat} (hG : RfG M m p) {v : Int32} (hQ : Q none M) : Call G (d + 1) 0 0 mX12_notes [.ref m, .int v] M Q := by
  refine eX12_notes m _ ⟨hs, fun _ => hQ, fun c => absurd (hG.1.1.symm.trans c) (by decide)⟩
theorem rt_sign {k : Nat} (h : k ≤ 18) (h1 : k ≠ 1) : nI (rtK k) = 10 ↔ 11 ≤ k ∧ k ≤ 17 := by
  have hr : rtK k ≤ 11 := by unfold rtK; split; omega; split; omega; split <;> omega
  rw [show (10 : Int32) = nI 10 from rfl, nI_eq (by omega) (by omega)]
  unfold rtK
  split
  · omega
  split
  · omega
  split <;> omega
theorem rt_eq {k j : Nat} (h : k ≤ 18) (h1 : k ≠ 1) (hj : j ≤ 18) (hj1 : j ≠ 1) (hn : ¬ (11 ≤ j ∧ j ≤ 17)) : nI (rtK k) = nI (rtK j) ↔ k = j := by
  have hr : ∀ k, rtK k ≤ k + 10 := fun k => by unfold rtK; split; omega; split; omega; split <;> omega
  have := hr k
  have := hr j
  rw [nI_eq (by omega) (by omega)]
  unfold rtK
  by_cases c1 : k = 0 <;> by_cases c2 : j = 0 <;> by_cases c3 : k ≤ 10 <;> by_cases c4 : j ≤ 10 <;> by_cases c5 : k = 18 <;> by_cases c6 : j = 18 <;> simp [c1, c2, c3, c4, c5, c6] <;> omega
theorem ch_inj : ∀ k, 11 ≤ k → k ≤ 17 → ∀ j, 11 ≤ j → j ≤ 17 → (chK k = chK j ↔ k = j) := by
  intro k h1 h2 j h3 h4
  unfold chK
  have hk : k = 11 ∨ k = 12 ∨ k = 13 ∨ k = 14 ∨ k = 15 ∨ k = 16 ∨ k = 17 := by omega
  have hj : j = 11 ∨ j = 12 ∨ j = 13 ∨ j = 14 ∨ j = 15 ∨ j = 16 ∨ j = 17 := by omega
  rcases hk with rfl | rfl | rfl | rfl | rfl | rfl | rfl <;> rcases hj with rfl | rfl | rfl | rfl | rfl | rfl | rfl <;> decide
theorem RfI.kd {s : PSt} (hI : RfI M m L t s) : kdT (q_l s) ≤ 18 := kd_le hI.1.2.2.1
/-- which token it is -/
theorem RfI.tk {s : PSt} (hI : RfI M m L t s) {j : Nat} (hj : j ≤ 18) (hj1 : j ≠ 1) (hn : ¬ (11 ≤ j ∧ j ≤ 17)) : x_i M m 39 = nI (rtK j) ↔ kdT (q_l s) = j := by
  rw [hI.1.1.2.1]
  exact rt_eq hI.kd hI.1.2.1 hj hj1 hn
theorem ur_isSign (d : Nat) (hE : RfE M m L rc t wd) {s : PSt} (hI : RfI M m L t s) {k : Nat} (h1 : 11 ≤ k) (h2 : k ≤ 17) (hQ1 : kdT (q_l s) = k → Q (some (.int 1)) M) (hQ0 : kdT (q_l s) ≠ k → Q (some (.int 0)) M) : Call G (d + 1) 0 0 mX12_isSign [.ref m, .int (nI (chK k))] M Q := by
  have hkd := hI.kd
  have hn1 := hI.1.2.1
  refine eX12_isSign m _ ⟨hE.1.1.1, ?_⟩
  rw [hI.1.1.2.1, rt_sign hkd hn1]
  refine ⟨fun c => hQ0 (fun e => c (by omega)), fun c => ?_⟩
  rw [hI.1.1.2.2.2 c]
  have hc : ∀ k, chK k < 100 := fun k => by unfold chK; split; omega; split; omega; split; omega; split; omega; split; omega; split <;> omega
  have := hc k
  have := hc (kdT (q_l s))
  rw [nI_eq (by omega) (by omega), ch_inj _ c.1 c.2 _ h1 h2]
  exact ⟨hQ0, hQ1⟩
theorem ur_isSignG (d : Nat) (hs : (x_h M m).1 = 28) {p : Nat} (hG : RfG M m p) {v : Int32} (hQ : Q (some (.int 0)) M) : Call G (d + 1) 0 0 mX12_isSign [.ref m, .int v] M Q := by
  refine eX12_isSign m _ ⟨hs, fun _ => hQ, fun c => absurd (hG.1.2.2.2.symm.trans c) (by decide)⟩
theorem ur_need (d : Nat) (hE : RfE M m L rc t wd) {s : PSt} (hI : RfI M m L t s) {k : Nat} (h1 : 11 ≤ k) (h2 : k ≤ 17) (hQ1 : kdT (q_l s) = k → ∀ M', FrM M M' m [38, 39, 40, 41, 42, 45, 46] [] → RfX M' m L t (tlS s) → Q none M') (hQ0 : kdT (q_l s) ≠ k → ∀ M', FrM M M' m [38, 39, 40, 41, 42, 45, 46] [] → RfG M' m (plT L (q_l s)) → Q none M') : Call G (d + 5) 0 0 mX12_need [.ref m, .int (nI (chK k))] M Q := by
  refine eX12_need m _ ⟨hE.1.1.1, ur_isSign (d + 3) hE hI h1 h2 (fun e => ⟨1, rfl, fun c => absurd c (by decide), fun _ => ⟨hE.1.1.1, ur_nextS d hE hI (by omega) (fun M' g h => ⟨rfl, hQ1 e M' g h⟩)⟩⟩) (fun e => ⟨0, rfl, fun _ => ⟨hE.1.1.1, ur_cannotS (d + 3) hE hI (fun M' g h => ⟨rfl, hQ0 e M' (g.wk (by decide) (by decide)) h⟩)⟩, fun c => absurd rfl c⟩)⟩
theorem ur_needG (d : Nat) (hs : (x_h M m).1 = 28) {p : Nat} (hG : RfG M m p) {v : Int32} (hQ : ∀ M', FrM M M' m [38, 39, 40, 41, 42, 45, 46] [] → RfG M' m p → Q none M') : Call G (d + 2) 0 0 mX12_need [.ref m, .int v] M Q := by
  refine eX12_need m _ ⟨hs, ur_isSignG d hs hG ⟨0, rfl, fun _ => ⟨hs, ur_cannotG d hs hG (fun M' g h => ⟨rfl, hQ M' (g.wk (by decide) (by decide)) h⟩)⟩, fun c => absurd rfl c⟩⟩
/-- a part ends: its form, its parts, its name, its place stand at the place a -/
theorem ur_ended (d : Nat) (hs : ReS M m) {c : Nat} (hc : c ≤ 129) (h47 : x_i M m 47 = nI c) {f x y z p : Int32}
    (hQ : ∀ M', FrM M M' m [47] [30, 31, 32, 33, 34] → x_i M' m 47 = nI (if c < 129 then c + 1 else c) → x_i M' (m + 30) c = f → x_i M' (m + 31) c = x → x_i M' (m + 32) c = y → x_i M' (m + 33) c = z → x_i M' (m + 34) c = p → (∀ o, o ∈ [30, 31, 32, 33, 34] → ∀ j, j ≠ c → x_i M' (m + o) j = x_i M (m + o) j) → Q (some (.int (nI c))) M') :
    Call G (d + 1) 0 0 mX12_ended [.ref m, .int f, .int x, .int y, .int z, .int p] M Q := by
  have hcl : (nI c).toNatClampNeg = c := nI_clamp (by omega)
  have key : ∀ M0, FrM M M0 m [47] [] → x_i M0 m 47 = nI (if c < 129 then c + 1 else c) → LX12_ended_24 G d 0 0 m f x y z p (nI c) M0 Q := by
    intro M0 g0 e47
    have s0 := g0.S hs
    refine vX12_ended_24 _ _ _ _ _ _ _ ⟨s0.1, m + 30, s0.r30, by rw [s0.h30], by rw [s0.h30]; exact vp_in_nI (show c < 130 by omega) (by omega), ?_⟩
    rintro M5 rfl
    refine ⟨m + 31, s0.r31, by show (x_h M0 (m + 31)).1 = 1; rw [s0.h31], by show vp_in (nI c) (x_h M0 (m + 31)).2; rw [s0.h31]; exact vp_in_nI (show c < 130 by omega) (by omega), ?_⟩
    rintro M9 rfl
    refine ⟨m + 32, s0.r32, by show (x_h M0 (m + 32)).1 = 1; rw [s0.h32], by show vp_in (nI c) (x_h M0 (m + 32)).2; rw [s0.h32]; exact vp_in_nI (show c < 130 by omega) (by omega), ?_⟩
    rintro M13 rfl
    refine ⟨m + 33, s0.r33, by show (x_h M0 (m + 33)).1 = 1; rw [s0.h33], by show vp_in (nI c) (x_h M0 (m + 33)).2; rw [s0.h33]; exact vp_in_nI (show c < 130 by omega) (by omega), ?_⟩
    rintro M17 rfl
    refine ⟨m + 34, s0.r34, by show (x_h M0 (m + 34)).1 = 1; rw [s0.h34], by show vp_in (nI c) (x_h M0 (m + 34)).2; rw [s0.h34]; exact vp_in_nI (show c < 130 by omega) (by omega), ?_⟩
    rintro M21 rfl
    rw [hcl]
    refine hQ _ ((((((g0.wk (by decide) (by decide)).si (by omega) (by decide)).si (by omega) (by decide)).si (by omega) (by decide)).si (by omega) (by decide)).si (by omega) (by decide)) ?_ ?_ ?_ ?_ ?_ ?_ (fun o ho j hj => ?_)
    · rw [xi_na (by omega), xi_na (by omega), xi_na (by omega), xi_na (by omega), xi_na (by omega)]; exact e47
    · rw [xi_na (by omega), xi_na (by omega), xi_na (by omega), xi_na (by omega), xi_eq]
    · rw [xi_na (by omega), xi_na (by omega), xi_na (by omega), xi_eq]
    · rw [xi_na (by omega), xi_na (by omega), xi_eq]
    · rw [xi_na (by omega), xi_eq]
    · rw [xi_eq]
    · rw [xi_nk hj, xi_nk hj, xi_nk hj, xi_nk hj, xi_nk hj]
      simp only [List.mem_cons, List.not_mem_nil, or_false] at ho
      rw [g0.i (by omega) (by simp)]
  refine eX12_ended m _ _ _ _ _ ⟨hs.1, ?_⟩
  rw [h47, show (129 : Int32) = nI 129 from rfl, nI_leI (by omega) (by omega)]
  refine ⟨fun q => key M FrM.rf (by rw [if_neg (by omega)]; exact h47), fun q => ?_⟩
  rintro M3 rfl
  exact key _ (FrM.rf.sm (by decide)) (by rw [xi_eq, nI_1, if_pos (by omega)])
end RStateC
