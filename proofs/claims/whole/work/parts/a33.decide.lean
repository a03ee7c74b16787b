/-! ===== Weaver: a part, all parts ===== -/
section DecideC
def PartsS (M : Mem) (pa p0 : Nat) : Prop := x_h M pa = (6, 60) ∧ ∀ i, i < 60 → x_r M pa i = some (p0 + 8 * i) ∧ PaS M (p0 + 8 * i)
theorem PartsS.eq {M M' : Mem} {pa p0 : Nat} (h : PartsS M pa p0) (h1 : x_h M' = x_h M) (h2 : x_r M' = x_r M) : PartsS M' pa p0 := by
  unfold PartsS
  rw [h1, h2]
  exact ⟨h.1, fun i hi => ⟨(h.2 i hi).1, (h.2 i hi).2.eq h1 h2⟩⟩
def PaI (M : Mem) (p : Nat) (P : PD) : Prop := x_i M p 3 = nI (p_f P) ∧ x_i M p 4 = nI (p_p P) ∧ x_i M p 8 = nI (p_s P) ∧ (p_f P = 0 → x_i M p 7 = nI (p_g P)) ∧ (p_f P ≤ 1 → SiI M (p + 1) (p_a P) ∧ SiI M (p + 3) (p_b P)) ∧ (2 ≤ p_f P → x_i M p 5 = nI (p_l P)) ∧ (3 ≤ p_f P ∧ p_f P ≤ 5 → x_i M p 6 = nI (p_r P))
theorem PaI.eq {M M' : Mem} {p : Nat} {P : PD} (h : PaI M p P) (e : ∀ q, p ≤ q → q ≤ p + 4 → x_i M' q = x_i M q) : PaI M' p P := by
  unfold PaI SiI
  rw [e p (by omega) (by omega), e (p + 1) (by omega) (by omega), e (p + 1 + 1) (by omega) (by omega), e (p + 3) (by omega) (by omega), e (p + 3 + 1) (by omega) (by omega)]
  exact h
def PWf (R : Nat → Mc) (rc : Nat) (D : Nat → PD) (i : Nat) : Prop :=
  p_s (D i) < 256 ∧ pc (p_s (D i)) ≤ 3 ∧ p_f (D i) ≤ 7 ∧
  (p_f (D i) = 0 → (p_g (D i) = 16 ∨ p_g (D i) = 17 ∨ p_g (D i) = 18) ∧ s_n (p_a (D i)) ≤ 200 ∧ s_n (p_b (D i)) ≤ 200 ∧ (∀ n, n < 8 → s_t (p_a (D i)) n ≤ 120 ∧ s_t (p_b (D i)) n ≤ 120) ∧ -500 ≤ lowS (fun n => (s_t (p_a (D i)) n : Int) - (s_t (p_b (D i)) n : Int)) 8 ∧ higS (fun n => (s_t (p_a (D i)) n : Int) - (s_t (p_b (D i)) n : Int)) 8 ≤ 500) ∧
  (p_f (D i) = 1 → (∃ r, s_r (p_a (D i)) = some r) ∧ SWf R rc (p_a (D i)) ∧ SWf R rc (p_b (D i)) ∧ (s_r (p_b (D i)) = none → s_s (p_b (D i)) = 0 ∧ s_n (p_b (D i)) < 8) ∧ p_s (D i) = s_s (p_a (D i)) ||| s_s (p_b (D i))) ∧
  (2 ≤ p_f (D i) → p_l (D i) < i) ∧ (p_f (D i) = 2 → p_s (D i) = p_s (D (p_l (D i)))) ∧ (3 ≤ p_f (D i) ∧ p_f (D i) ≤ 5 → p_r (D i) < i ∧ p_s (D i) = p_s (D (p_l (D i))) ||| p_s (D (p_r (D i)))) ∧
  (p_f (D i) = 6 ∨ p_f (D i) = 7 → ∀ n, n < 8 → bt (p_s (D i)) n = 1 → bt (p_s (D (p_l (D i)))) n = 1)
/-- the machine of part j stands in its Least -/
def PmI (M : Mem) (p0 b : Nat) (D : Nat → PD) (Ms : Nat → Mc) (j : Nat) : Prop := LeI M (p0 + 8 * j + 5) (p0 + 8 * j + 6) (p0 + 8 * j + 7) (m_n (Ms j)) (fn b (p_s (D j))) (m_s (Ms j)) (m_k (Ms j))
theorem jn_le {way x y : Nat} (hw : way = 0 ∨ way = 3 ∨ way = 4 ∨ way = 5) (hx : way = 0 ∨ x ≤ 1) (hy : way = 0 ∨ y ≤ 1) : jn way x y ≤ 1 := by
  unfold jn
  split
  · split <;> omega
  split
  · omega
  split
  · omega
  split
  · have : x &&& y ≤ x := Nat.and_le_left
    omega
  split
  · have := Nat.or_lt_two_pow (n := 1) (x := x) (y := y) (by omega) (by omega)
    omega
  · have := Nat.or_lt_two_pow (n := 1) (x := 1 - x) (y := y) (by omega) (by omega)
    omega
theorem LRes.ok {b : Nat} {D : Nat → PD} {Ms : Nat → Mc} {i : Nat} {β : List Nat → Nat} {m : Mc} (hb : 0 < b) (h : LRes (fn b (p_s (D i))) 40 β (Option.some m)) (h1 : ∀ u, wd (fn b (p_s (D i))) u → β u ≤ 1) : ∃ β, mcan (fn b (p_s (D i))) m β ∧ m_n m ≤ 40 ∧ ∀ j, j < m_n m → m_k m j ≤ 1 :=
  ⟨β, h.some.1, h.some.2, can_marks (P := fun x => x ≤ 1) (fn_pos hb) h.some.1 h1⟩
theorem MsOK.b {b : Nat} {D : Nat → PD} {Ms : Nat → Mc} {j : Nat} (h : MsOK b D Ms j) {u : List Nat} (hu : wd (fn b (p_s (D j))) u) : m_b (Ms j) u ≤ 1 := by
  obtain ⟨β, h1, h2, h3⟩ := h
  exact h3 _ (rn_lt h1.2.1 u 0 hu h1.1)
theorem map_vw_wd {b al sm : Nat} (hb : 0 < b) (u : List Nat) : wd (fn b sm) (u.map (vw b al sm)) := fun y hy => by
  obtain ⟨g, _, rfl⟩ := List.mem_map.mp hy
  exact vw_lt hb
theorem PSpec.ok {b : Nat} {R : Nat → Mc} {D : Nat → PD} {Ms : Nat → Mc} {rc i : Nat} {m : Mc} (hb : 0 < b) (hwf : PWf R rc D i) (hM : ∀ j, j < i → MsOK b D Ms j) (h : PSpec b R D Ms i (some m)) : ∃ β, mcan (fn b (p_s (D i))) m β ∧ m_n m ≤ 40 ∧ ∀ j, j < m_n m → m_k m j ≤ 1 := by
  obtain ⟨a0, a1, a2, a3, a6⟩ := h
  obtain ⟨f1, f2, f3, f4, f5, f6, f7, f8, f9⟩ := hwf
  by_cases c0 : p_f (D i) = 0
  · exact LRes.ok (Ms := Ms) hb (a0 c0) (fun u _ => cmpI_le)
  by_cases c1 : p_f (D i) = 1
  · obtain ⟨⟨r, hr⟩, -⟩ := f5 c1
    obtain ⟨rl, l1, l2, l3⟩ := a1 c1 r hr
    cases rl with
    | none => exact absurd (l2 rfl) (by simp)
    | some ml =>
      obtain ⟨x1, x2⟩ := l3 ml rfl
      cases hs : s_r (p_b (D i)) with
      | none => exact LRes.ok (Ms := Ms) hb (x1 hs) (fun u _ => jn_le (Or.inl rfl) (Or.inl rfl) (Or.inl rfl))
      | some r' =>
        obtain ⟨rr, g1, g2, g3⟩ := x2 r' hs
        cases rr with
        | none => exact absurd (g2 rfl) (by simp)
        | some mr => exact LRes.ok (Ms := Ms) hb (g3 mr rfl) (fun u _ => jn_le (Or.inl rfl) (Or.inl rfl) (Or.inl rfl))
  have hl := hM _ (f6 (by omega))
  by_cases c2 : p_f (D i) = 2
  · exact LRes.ok (Ms := Ms) hb (a2 c2) (fun u _ => Nat.sub_le _ _)
  by_cases c3 : p_f (D i) ≤ 5
  · have hr := hM _ (f8 ⟨by omega, c3⟩).1
    exact LRes.ok (Ms := Ms) hb (a3 ⟨by omega, c3⟩) (fun u _ => jn_le (way := p_f (D i)) (by omega) (Or.inr (hl.b (map_vw_wd hb u))) (Or.inr (hr.b (map_vw_wd hb u))))
  have c6 : p_f (D i) = 6 ∨ p_f (D i) = 7 := by omega
  obtain ⟨x1, x2⟩ := a6 c6
  by_cases e : p_s (D i) = p_s (D (p_l (D i)))
  · exact LRes.ok (Ms := Ms) hb (x1 e) (fun u hu => hl.b (by rw [← e]; exact hu))
  · obtain ⟨k, s1, s2⟩ := x2 e
    rcases s2 with ⟨_, o2⟩ | ⟨_, o2⟩
    · cases o2
    · exact LRes.ok (Ms := Ms) hb o2 (fun u _ => bdM_le)
variable {G : GG} {M : Mem} {w b pa p0 ra r0 rc cnt : Nat} {R : Nat → Mc} {D : Nat → PD} {Ms : Nat → Mc} {Q : Option Value → Mem → Prop}
def PFr (w p0 i : Nat) (q : Nat) : Prop := (w ≤ q ∧ q ≤ w + 21) ∨ q = p0 + 8 * i + 5 ∨ q = p0 + 8 * i + 6 ∨ q = p0 + 8 * i + 7
theorem w_weavePart (d : Nat) (hw : WeS M w) (e11 : x_i M w 11 = nI b) (hb : b = 2 ∨ b = 3) (hps : PartsS M pa p0) (hpw : p0 + 480 ≤ w) (hrc : rc ≤ 10) (hcnt : cnt ≤ 60) (hD : ∀ j, j < cnt → PaI M (p0 + 8 * j) (D j) ∧ PWf R rc D j) {i : Nat} (hi : i < cnt) (c1 : ¬ p_f (D i) = 1) (hM : ∀ j, j < i → MsOK b D Ms j ∧ PmI M p0 b D Ms j)
    (hQ : ∀ M' res, FrP M M' (PFr w p0 i) → x_i M' w 11 = nI b → PSpec b R D Ms i res → (∀ m, res = some m → LeI M' (p0 + 8 * i + 5) (p0 + 8 * i + 6) (p0 + 8 * i + 7) (m_n m) (fn b (p_s (D i))) (m_s m) (m_k m)) → Q (some (.int (nI (if res.isSome = true then 1 else 0)))) M') :
    Call G (d + 7) 0 0 mX10_weavePart [.ref w, .ref (p0 + 8 * i), .ref pa] M Q := by
  have hb1 : 1 < b := by omega
  have hb3 : b ≤ 3 := by omega
  obtain ⟨hpaH, hpaR⟩ := hps
  obtain ⟨-, hp⟩ := hpaR i (by omega)
  have hp0 := hp
  obtain ⟨p1, p2, p3, p4, p5, p6, p7⟩ := hp
  obtain ⟨⟨i3, i4, i8, i7, iS, i5, i6⟩, hwf⟩ := hD i hi
  obtain ⟨f1, f2, f3, f4, f5, f6, f7, f8, f9⟩ := hwf
  have h27 : fn b (p_s (D i)) ≤ 27 := fn_le27 hb3 f2 (by omega)
  have hkk : ∀ {M' : Mem} {A : List Nat}, Fr M M' A → (∀ q ∈ A, PFr w p0 i q) → w ∉ A → FrP M M' (PFr w p0 i) ∧ x_i M' w 11 = nI b := fun h hA hw => ⟨h.P hA, by rw [h.i hw]; exact e11⟩
  have hsp : ∀ m : Mc, (if (some m).isSome = true then 1 else 0) = 1 := fun _ => rfl
  have eqf : ∀ n : Nat, n < 8 → (nI (p_f (D i)) = nI n ↔ p_f (D i) = n) := fun n hn => nI_eq (by omega) (by omega)
  have e0 : nI (p_f (D i)) = 0 ↔ p_f (D i) = 0 := eqf 0 (by omega)
  have e2 : nI (p_f (D i)) = 2 ↔ p_f (D i) = 2 := eqf 2 (by omega)
  have e6 : nI (p_f (D i)) = 6 ↔ p_f (D i) = 6 := eqf 6 (by omega)
  have e7 : nI (p_f (D i)) = 7 ↔ p_f (D i) = 7 := eqf 7 (by omega)
  refine eX10_weavePart w _ pa ⟨p1, ?_⟩
  rw [i3, e0]
  refine ⟨fun c0 => ?_, fun c0 => ⟨hw.1, ?_⟩⟩
  · -- a part of parts
    have hl := f6 (by omega)
    obtain ⟨hMl, hMlI⟩ := hM _ hl
    obtain ⟨βl, lc, ln, lm⟩ := hMl
    obtain ⟨hlr, hlp⟩ := hpaR (p_l (D i)) (by omega)
    obtain ⟨l1, l2, l3, l4, l5, l6, l7⟩ := hlp
    obtain ⟨⟨li3, li4, li8, -⟩, lwf⟩ := hD (p_l (D i)) (by omega)
    have hlF : fn b (p_s (D (p_l (D i)))) ≤ 27 := fn_le27 hb3 lwf.2.1 (by omega)
    have hlnF : m_n (Ms (p_l (D i))) * fn b (p_s (D (p_l (D i)))) ≤ 1080 := by have := Nat.mul_le_mul ln hlF; omega
    have hlf0 : 0 < fn b (p_s (D (p_l (D i)))) := fn_pos (by omega)
    have k4 : (4 ≤ (x_h M pa).1 ∧ (x_h M pa).1 < 8) := by rw [hpaH]; exact ⟨by decide, by decide⟩
    have k1 : (1 ≤ (x_h M pa).1 ∧ (x_h M pa).1 < 8) := by rw [hpaH]; exact ⟨by decide, by decide⟩
    have bound : p_f (D i) = 6 ∨ p_f (D i) = 7 → Call G (d + 6) 0 0 mX10_weaveBound [.ref w, .ref (p0 + 8 * i), .ref (p0 + 8 * p_l (D i))] M (fun r16 M17 => ∃ v18 : Int32, r16 = some (.int v18) ∧ (v18 = 0 ∨ v18 = 1) ∧ Q (some (.int v18)) M17) := by
      intro c6
      have hfmt : ∀ res : Option Mc, ∀ M', FrP M M' (PFr w p0 i) → x_i M' w 11 = nI b → PSpec b R D Ms i res → (∀ m, res = some m → LeI M' (p0 + 8 * i + 5) (p0 + 8 * i + 6) (p0 + 8 * i + 7) (m_n m) (fn b (p_s (D i))) (m_s m) (m_k m)) → ∀ v : Nat, v = (if res.isSome = true then 1 else 0) → ∃ v18 : Int32, some (Value.int (nI v)) = some (.int v18) ∧ (v18 = 0 ∨ v18 = 1) ∧ Q (some (.int v18)) M' := by
        intro res M' h1 h2 h3 h4 v hv
        refine ⟨_, rfl, ?_, by rw [hv]; exact hQ M' res h1 h2 h3 h4⟩
        cases res with
        | none => exact Or.inl (by rw [hv]; rfl)
        | some m => exact Or.inr (by rw [hv]; rfl)
      refine w_weaveBound (d + 1) hw e11 hb1 hb3 hp0 ⟨l1, l2, l3, l4, l5, l6, l7⟩ (fun q _ _ => by omega) (fun q _ _ => by omega) (by omega) f1 lwf.1 (f9 c6) hlF i8 li8 i3 c6 hMlI lc.1 ln lc.2.1 lm (fun M' h1 h2 h3 h4 => ?_) (fun M' m k st' mr' h1 h2 h3 h4 h5 h6 h7 h8 => ?_) (fun M' k h1 h2 h3 h4 h5 => ?_)
      · refine hfmt (some (Ms (p_l (D i)))) M' (h1.P (fun q hq => by simp at hq; unfold PFr; omega)) h2 ⟨fun c => absurd c c0, fun c => absurd c c1, fun c => by omega, fun c => by omega, fun _ => ⟨fun _ => Or.inl ⟨_, rfl, by rw [h3]; exact mcan_self lc, ln⟩, fun e => absurd h3 e⟩⟩ (fun m e => by cases e; rw [h3]; exact h4) 1 rfl
      · refine hfmt (some (m, st', mr')) M' (h1.P (fun q hq => by simp at hq; unfold PFr; omega)) h2 ⟨fun c => absurd c c0, fun c => absurd c c1, fun c => by omega, fun c => by omega, fun _ => ⟨fun e => absurd e h3, fun _ => ⟨k, h4, Or.inr ⟨h8, Or.inl ⟨_, rfl, h7, h5⟩⟩⟩⟩⟩ (fun m' e => by cases e; exact h6) 1 rfl
      · refine hfmt none M' (h1.P (fun q hq => by simp at hq; unfold PFr; omega)) h2 ⟨fun c => absurd c c0, fun c => absurd c c1, fun c => by omega, fun c => by omega, fun _ => ⟨fun e => absurd e h3, fun _ => ⟨k, h4, ?_⟩⟩⟩ (fun m' e => by cases e) 0 rfl
        rcases h5 with q | ⟨q1, q2⟩
        · exact Or.inl ⟨q, rfl⟩
        · exact Or.inr ⟨q1, Or.inr ⟨rfl, fun m hm => q2 _ _ _ hm⟩⟩
    refine ⟨k1, ?_⟩
    rw [i5 (by omega), hpaH]
    refine w_within (i := p_l (D i)) (n := 60) (d + 5) (by omega) (by omega) ⟨_, rfl, fun _ => ⟨p1, by rw [hpaH]; exact ⟨by decide, by decide⟩, by rw [hpaH, i5 (by omega)]; exact vp_in_nI (show p_l (D i) < 60 by omega) (by omega), p0 + 8 * p_l (D i), ?_⟩, fun c => ?_⟩
    · rw [i5 (by omega), nI_clamp (by omega), i3, e2, e6, e7]
      refine ⟨hlr, fun c2 => ⟨fun c6 => ⟨hw.1, bound (Or.inl c6)⟩, fun c6 => ⟨fun c7 => ⟨k1, ?_⟩, fun c7 => ⟨hw.1, bound (Or.inr c7)⟩⟩⟩, fun c2 => ⟨p0 + 8 * i + 5, p4, l1, p0 + 8 * p_l (D i) + 5, l4, p7.1, ?_⟩⟩
      · -- and, or, so
        have c35 : 3 ≤ p_f (D i) ∧ p_f (D i) ≤ 5 := by omega
        obtain ⟨hr, hnm⟩ := f8 c35
        obtain ⟨hMr, hMrI⟩ := hM _ hr
        obtain ⟨βr, rcn, rn', rm⟩ := hMr
        obtain ⟨hrr, hrp⟩ := hpaR (p_r (D i)) (by omega)
        obtain ⟨r1, r2, r3, r4, r5, r6, r7⟩ := hrp
        obtain ⟨⟨ri3, ri4, ri8, -⟩, rwf⟩ := hD (p_r (D i)) (by omega)
        have hrF : fn b (p_s (D (p_r (D i)))) ≤ 27 := fn_le27 hb3 rwf.2.1 (by omega)
        have hrnF : m_n (Ms (p_r (D i))) * fn b (p_s (D (p_r (D i)))) ≤ 1080 := by have := Nat.mul_le_mul rn' hrF; omega
        rw [i6 c35, hpaH]
        refine w_within (i := p_r (D i)) (n := 60) (d + 5) (by omega) (by omega) ⟨_, rfl, fun _ => ⟨p1, by rw [hpaH]; exact ⟨by decide, by decide⟩, by rw [hpaH, i6 c35]; exact vp_in_nI (show p_r (D i) < 60 by omega) (by omega), p0 + 8 * p_r (D i), ?_⟩, fun c => ?_⟩
        · rw [i6 c35, nI_clamp (by omega)]
          refine ⟨hrr, l1, p0 + 8 * p_l (D i) + 5, l4, r1, p0 + 8 * p_r (D i) + 5, r4, p0 + 8 * i + 5, p4, hw.1, ?_⟩
          rw [li8, ri8, i3]
          have n3 : m_n (Ms (p_l (D i))) * m_n (Ms (p_r (D i))) ≤ 1600 := Nat.mul_le_mul ln rn'
          have n4 : m_n (Ms (p_l (D i))) * m_n (Ms (p_r (D i))) * fn b (p_s (D i)) ≤ 43200 := Nat.mul_le_mul n3 h27
          have hwdB : ∀ u, wd (fn b (p_s (D i))) u → prM (m_n (Ms (p_r (D i)))) (p_f (D i)) (m_k (Ms (p_l (D i)))) (m_k (Ms (p_r (D i)))) (dl (prD b (m_n (Ms (p_r (D i)))) (p_s (D i)) (p_s (D (p_l (D i)))) (p_s (D (p_r (D i)))) (m_s (Ms (p_l (D i)))) (m_s (Ms (p_r (D i))))) 0 u) = jn (p_f (D i)) (m_b (Ms (p_l (D i))) (u.map (vw b (p_s (D i)) (p_s (D (p_l (D i))))))) (m_b (Ms (p_r (D i))) (u.map (vw b (p_s (D i)) (p_s (D (p_r (D i))))))) := fun u hu => by
            rw [dl_0 (nb := m_n (Ms (p_r (D i)))), pr_tells (f := fn b (p_s (D i))) (fun i hi g hg => rcn.2.1 i hi _ (vw_lt (by omega))) u 0 0 hu rcn.1]
            rfl
          refine w_product (d + 1) hw e11 hb1 hb3 p7 (fun q hq => by simp at hq; omega) (way := p_f (D i)) (most := 40) c35.2 lwf.1 rwf.1 (by rw [← hnm]; exact h27) (by omega) (by omega) (by rw [← hnm]; have := Nat.mul_le_mul_left 40 h27; omega) l7 hMlI r7 hMrI lc.1 rcn.1 (by omega) (by rw [← hnm]; exact n4) hlnF ln hrnF rn' lc.2.1 rcn.2.1 (fun a ha => by have := lm a ha; omega) (fun a ha => by have := rm a ha; omega) (fun _ => lm) (fun q hq => by simp at hq ⊢; omega) (fun q hq => by simp at hq ⊢; omega) (fun M' m st' mr' h1 h2 h3 h4 => ?_) (fun M' h1 h2 h3 => ?_)
          · rw [← hnm] at h3 h4
            obtain ⟨g1, g2⟩ := hkk h1 (fun q hq => by simp at hq; unfold PFr; omega) (by simp <;> omega)
            exact ⟨_, rfl, Or.inr rfl, hQ M' (some (m, st', mr')) g1 g2 ⟨fun c => absurd c c0, fun c => absurd c c1, fun c => absurd c c2, fun _ => Or.inl ⟨_, rfl, Can.congr h4 hwdB, h2⟩, fun c => by omega⟩ (fun m' e => by cases e; exact h3)⟩
          · rw [← hnm] at h2
            obtain ⟨g1, g2⟩ := hkk h1 (fun q hq => by simp at hq; unfold PFr; omega) (by simp <;> omega)
            exact ⟨_, rfl, Or.inl rfl, hQ M' none g1 g2 ⟨fun c => absurd c c0, fun c => absurd c c1, fun c => absurd c c2, fun _ => Or.inr ⟨rfl, fun m hm => h2 _ _ _ (Can.congr hm (fun u hu => (hwdB u hu).symm))⟩, fun c => by omega⟩ (fun m' e => by cases e)⟩
        · rw [if_pos (by omega)] at c
          exact absurd c (by decide)
      · -- not
        have hF := f7 c2
        refine Call.mono (k_becomeContrary (d + 2) hlf0 p7 ln hlnF l7 hMlI hlnF ln ⟨by simp <;> omega, by simp <;> omega, by simp <;> omega⟩ lm) ?_
        rintro r M1 ⟨rfl, g1, g2⟩
        obtain ⟨q1, q2⟩ := hkk g2.fr (fun q hq => by simp at hq; unfold PFr; omega) (by simp <;> omega)
        exact ⟨rfl, hQ M1 (some (m_n (Ms (p_l (D i))), m_s (Ms (p_l (D i))), fun a => 1 - m_k (Ms (p_l (D i))) a)) q1 q2 ⟨fun c => absurd c c0, fun c => absurd c c1, fun _ => Or.inl ⟨_, rfl, by rw [hF]; exact Can.congr (Can.turn lc lm) (fun u hu => by rw [mcan_b lc hu]), ln⟩, fun c => by omega, fun c => by omega⟩ (fun m e => by cases e; rw [hF]; exact g1)⟩
    · rw [if_pos (by omega)] at c
      exact absurd c (by decide)
  · -- an atom of sums
    obtain ⟨t1, t2, t3, t4, t5, t6⟩ := f4 c0
    obtain ⟨iA, iB⟩ := iS (by omega)
    refine w_weaveSums (d + 1) hw e11 hb1 hb3 hp0 (fun q _ _ => by omega) f1 h27 i8 (i7 c0) t1 iA.2.1 iB.2.1 t2 t3 (fun n hn => ⟨iA.2.2.2 n hn, (t4 n hn).1⟩) (fun n hn => ⟨iB.2.2.2 n hn, (t4 n hn).2⟩) t5 t6 (fun M' m st' mr' h1 h2 h3 h4 => ?_) (fun M' h1 h2 => ?_)
    · obtain ⟨g1, g2⟩ := hkk h1 (fun q hq => by simp at hq; unfold PFr; omega) (by simp <;> omega)
      exact ⟨_, rfl, Or.inr rfl, hQ M' (some (m, st', mr')) g1 g2 ⟨fun _ => Or.inl ⟨_, rfl, h4, h2⟩, fun c => by omega, fun c => by omega, fun c => by omega, fun c => by omega⟩ (fun m' e => by cases e; exact h3)⟩
    · obtain ⟨g1, g2⟩ := hkk h1 (fun q hq => by simp at hq; unfold PFr; omega) (by simp <;> omega)
      exact ⟨_, rfl, Or.inl rfl, hQ M' none g1 g2 ⟨fun _ => Or.inr ⟨rfl, fun m hm => h2 _ _ _ hm⟩, fun c => by omega, fun c => by omega, fun c => by omega, fun c => by omega⟩ (fun m' e => by cases e)⟩
theorem w_weaveRowsP (d : Nat) (hw : WeS M w) (e11 : x_i M w 11 = nI b) (hb : b = 2 ∨ b = 3) (hps : PartsS M pa p0) (hpw : p0 + 480 ≤ w) (hrc : rc ≤ 10) (hrs : RowsS M ra r0) (hrd : w + 21 < r0) (hrow : ∀ i, i < rc → RowG b (R i) ∧ RowI M (r0 + 8 * i) b (R i)) (hcnt : cnt ≤ 60) (hD : ∀ j, j < cnt → PaI M (p0 + 8 * j) (D j) ∧ PWf R rc D j) {i : Nat} (hi : i < cnt) (c1 : p_f (D i) = 1) (hM : ∀ j, j < i → MsOK b D Ms j ∧ PmI M p0 b D Ms j)
    (hQ : ∀ M' res, FrP M M' (PFr w p0 i) → x_i M' w 11 = nI b → PSpec b R D Ms i res → (∀ m, res = some m → LeI M' (p0 + 8 * i + 5) (p0 + 8 * i + 6) (p0 + 8 * i + 7) (m_n m) (fn b (p_s (D i))) (m_s m) (m_k m)) → Q (some (.int (nI (if res.isSome = true then 1 else 0)))) M') :
    Call G (d + 7) 0 0 mX10_weaveRows [.ref w, .ref (p0 + 8 * i), .ref ra, .int (nI rc)] M Q := by
  have hb1 : 1 < b := by omega
  have hb3 : b ≤ 3 := by omega
  obtain ⟨hpaH, hpaR⟩ := hps
  obtain ⟨-, hp⟩ := hpaR i (by omega)
  have hp0 := hp
  obtain ⟨⟨i3, i4, i8, i7, iS, i5, i6⟩, hwf⟩ := hD i hi
  obtain ⟨f1, f2, f3, f4, f5, f6, f7, f8, f9⟩ := hwf
  have h27 : fn b (p_s (D i)) ≤ 27 := fn_le27 hb3 f2 (by omega)
  have hkk : ∀ {M' : Mem} {A : List Nat}, Fr M M' A → (∀ q ∈ A, PFr w p0 i q) → w ∉ A → FrP M M' (PFr w p0 i) ∧ x_i M' w 11 = nI b := fun h hA hw => ⟨h.P hA, by rw [h.i hw]; exact e11⟩
  obtain ⟨⟨r, hr⟩, sA, sB, sn, hnm⟩ := f5 c1
  obtain ⟨iA, iB⟩ := iS (by omega)
  refine w_weaveRows (d + 1) hw e11 hb hp0 (by omega) hrc hrs hrd hrow iA iB hr sA sB sn hnm h27 (fun M' res h1 h2 h3 => ?_)
  obtain ⟨g1, g2⟩ := hkk h1 (fun q hq => by simp at hq; unfold PFr; omega) (by simp <;> omega)
  exact hQ M' res g1 g2 ⟨fun c => by omega, fun _ r' e => by rw [hr] at e; cases e; exact h2, fun c => by omega, fun c => by omega, fun c => by omega⟩ h3
def QueS (M : Mem) (q : Nat) : Prop := (x_h M q).1 = 20 ∧ x_r M q 0 = some (q + 1) ∧ LeS M (q + 1) (q + 2) (q + 3) 1080 40
theorem QueS.eq {M M' : Mem} {q : Nat} (h : QueS M q) (h1 : x_h M' = x_h M) (h2 : x_r M' = x_r M) : QueS M' q := by
  unfold QueS LeS
  rw [h1, h2]
  exact h
/-- the machines of the first k parts stand as told -/
def PUpto (b : Nat) (R : Nat → Mc) (D : Nat → PD) (Ms : Nat → Mc) (k : Nat) : Prop := ∀ j, j < k → PSpec b R D Ms j (some (Ms j))
theorem PSpec.cong {b : Nat} {R : Nat → Mc} {D : Nat → PD} {Ms Ms' : Nat → Mc} {i : Nat} {res : Option Mc} {rc : Nat} (hwf : PWf R rc D i) (h : PSpec b R D Ms i res) (e : ∀ j, j < i → Ms j = Ms' j) : PSpec b R D Ms' i res := by
  obtain ⟨a0, a1, a2, a3, a6⟩ := h
  obtain ⟨f1, f2, f3, f4, f5, f6, f7, f8, f9⟩ := hwf
  refine ⟨a0, a1, fun c => ?_, fun c => ?_, fun c => ?_⟩
  · rw [← e _ (f6 (by omega))]; exact a2 c
  · rw [← e _ (f6 (by omega)), ← e _ (f8 c).1]; exact a3 c
  · rw [← e _ (f6 (by omega))]; exact a6 c
def DFr (w p0 q x : Nat) : Prop := (w ≤ x ∧ x ≤ w + 21) ∨ (∃ i k, i < 60 ∧ 5 ≤ k ∧ k ≤ 7 ∧ x = p0 + 8 * i + k) ∨ (q ≤ x ∧ x ≤ q + 3)
theorem w_decide (d : Nat) (hw : WeS M w) (hb : b = 2 ∨ b = 3) (hps : PartsS M pa p0) (hpw : p0 + 480 ≤ w) (hrc : rc ≤ 10) (hrs : RowsS M ra r0) (hrd : w + 21 < r0) (hrow : ∀ i, i < rc → RowG b (R i) ∧ RowI M (r0 + 8 * i) b (R i)) (hcnt : cnt ≤ 60) (hcnt0 : 0 < cnt) (hD : ∀ j, j < cnt → PaI M (p0 + 8 * j) (D j) ∧ PWf R rc D j) {q : Nat} (hq : QueS M q) (hqw : w + 21 < q) (hqr : ∀ i, i < 10 → q + 3 < r0 + 8 * i ∨ r0 + 8 * i + 3 < q) (q5 : x_i M q 5 = nI cnt)
    (hQs : ∀ M' Ms k, k < cnt → FrP M M' (DFr w p0 q) → (∀ t, t ≠ 3 → x_i M' q t = x_i M q t) → x_i M' q 3 = nI (p_p (D k)) → PUpto b R D Ms k → PSpec b R D Ms k none → Q none M')
    (hQd : ∀ M' Ms, FrP M M' (DFr w p0 q) → (∀ t, x_i M' q t = x_i M q t) → PUpto b R D Ms cnt → (∀ j, j < cnt → MsOK b D Ms j) → LeI M' (q + 1) (q + 2) (q + 3) (m_n (Ms (cnt - 1))) (fn b (p_s (D (cnt - 1)))) (m_s (Ms (cnt - 1))) (m_k (Ms (cnt - 1))) → Q none M') :
    Call G (d + 8) 0 0 mX10_decide [.ref w, .ref pa, .ref q, .ref ra, .int (nI rc), .int (nI b)] M Q := by
  have hb1 : 1 < b := by omega
  obtain ⟨hq1, hq2, hq3⟩ := hq
  obtain ⟨hpaH, hpaR⟩ := id hps
  have key : ∀ (r k : Nat), k + r = cnt → ∀ M' (Ms : Nat → Mc), FrP M M' (DFr w p0 q) → x_i M' q = x_i M q → x_i M' w 11 = nI b → PUpto b R D Ms k → (∀ j, j < k → MsOK b D Ms j ∧ PmI M' p0 b D Ms j) → ∀ z7 z8, c1 z7 = true → c1 z8 = true → LX10_decide_9 G (d + 7) 0 0 w pa q ra (nI rc) (nI b) (nI k) z7 z8 M' Q := by
    intro r
    induction r with
    | zero =>
      intro k hk M' Ms hfr hqe hb' hup hM z7 z8 hz7 hz8
      have e : k = cnt := by omega
      subst e
      have hpaH' : x_h M' pa = (6, 60) := by rw [hfr.h]; exact hpaH
      refine vX10_decide_9 _ _ _ _ _ _ _ _ _ hz7 hz8 ⟨by rw [hfr.h]; exact hq1, fun _ => ⟨by rw [hpaH']; exact ⟨by decide, by decide⟩, ?_⟩, fun c => absurd (by rw [hqe, q5]; exact nI_le (Nat.le_refl k) (by omega)) c⟩
      have e5 : x_i M' q 5 - 1 = nI (k - 1) := by rw [hqe, q5]; exact pk_sub (b := 1) hcnt0
      rw [e5, hpaH']
      refine w_within (i := k - 1) (n := 60) (d + 6) (by omega) (by omega) ⟨_, rfl, fun c => ?_, fun _ => ⟨by rw [hfr.h]; exact hq1, q + 1, by rw [hfr.r]; exact hq2, by rw [hpaH']; exact ⟨by decide, by decide⟩, by rw [e5, hpaH']; exact vp_in_nI (show k - 1 < 60 by omega) (by omega), p0 + 8 * (k - 1), ?_⟩⟩
      · rw [if_pos (by omega)] at c
        exact absurd c (by decide)
      · rw [e5, nI_clamp (by omega)]
        obtain ⟨hr, hP⟩ := hpaR (k - 1) (by omega)
        obtain ⟨l1, l2, l3, l4, l5, l6, l7⟩ := hP
        obtain ⟨hm1, hm2⟩ := hM (k - 1) (by omega)
        obtain ⟨β, lc, ln, lm⟩ := hm1
        have hF : fn b (p_s (D (k - 1))) ≤ 27 := fn_le27 (by omega) (hD (k - 1) (by omega)).2.2.1 (by omega)
        have hnF : m_n (Ms (k - 1)) * fn b (p_s (D (k - 1))) ≤ 1080 := by have := Nat.mul_le_mul ln hF; omega
        refine ⟨by rw [hfr.r]; exact hr, by rw [hfr.h]; exact l1, p0 + 8 * (k - 1) + 5, by rw [hfr.r]; exact l4, by rw [hfr.h]; exact hq3.1, ?_⟩
        refine Call.mono (k_become (d + 4) (fn_pos (by omega)) (hq3.fP hfr) ln hnF (l7.fP hfr) hm2 hnF ln ⟨by simp <;> omega, by simp <;> omega, by simp <;> omega⟩) ?_
        rintro r M1 ⟨rfl, g1, g2⟩
        refine ⟨rfl, hQd M1 Ms (hfr.tr (g2.fr.P (P := DFr w p0 q) (fun x hx => by simp at hx; unfold DFr; omega)) (fun _ h => h)) (fun t => by rw [g2.i (by simp <;> omega), hqe]) hup (fun j hj => (hM j hj).1) g1⟩
    | succ r ih =>
      intro k hk M' Ms hfr hqe hb' hup hM z7 z8 hz7 hz8
      have hpaH' : x_h M' pa = (6, 60) := by rw [hfr.h]; exact hpaH
      have k4 : (4 ≤ (x_h M' pa).1 ∧ (x_h M' pa).1 < 8) := by rw [hpaH']; exact ⟨by decide, by decide⟩
      have vin : vp_in (nI k) (x_h M' pa).2 := by rw [hpaH']; exact vp_in_nI (show k < 60 by omega) (by omega)
      obtain ⟨hr, hP⟩ := hpaR k (by omega)
      have hcl : (nI k).toNatClampNeg = k := nI_clamp (by omega)
      have nD : ∀ j x, j < 60 → p0 + 8 * j ≤ x → x ≤ p0 + 8 * j + 4 → ¬ DFr w p0 q x := fun j x hj h1 h2 => by
        rintro (h | ⟨i', k', h3, h4, h5, h6⟩ | h) <;> omega
      have nR : ∀ j x, j < 10 → r0 + 8 * j + 1 ≤ x → x ≤ r0 + 8 * j + 3 → ¬ DFr w p0 q x := fun j x hj h1 h2 => by
        have := hqr j hj
        rintro (h | ⟨i', k', h3, h4, h5, h6⟩ | h) <;> omega
      refine vX10_decide_9 _ _ _ _ _ _ _ _ _ hz7 hz8 ⟨by rw [hfr.h]; exact hq1, fun c => ?_, fun _ => ⟨by rw [hpaH']; exact ⟨by decide, by decide⟩, fun c => ?_, fun _ => ⟨k4, vin, p0 + 8 * k, by rw [hcl, hfr.r]; exact hr, by rw [hfr.h]; exact hP.1, ?_⟩⟩⟩
      · rw [hqe, q5] at c
        exact absurd c (nI_ge (by omega) (by omega))
      · rw [hpaH'] at c
        exact absurd c (nI_ge (a := k) (b := 60) (by omega) (by omega))
      · have tail : ∀ M1 res, FrP M' M1 (PFr w p0 k) → x_i M1 w 11 = nI b → PSpec b R D Ms k res → (∀ m, res = some m → LeI M1 (p0 + 8 * k + 5) (p0 + 8 * k + 6) (p0 + 8 * k + 7) (m_n m) (fn b (p_s (D k))) (m_s m) (m_k m)) → (∀ z7 z8, c1 z7 = true → c1 z8 = true → ¬ nI (if res.isSome = true then 1 else 0) = 0 → LX10_decide_9 G (d + 7) 0 0 w pa q ra (nI rc) (nI b) (nI k + 1) z7 z8 M1 Q) ∧ (nI (if res.isSome = true then 1 else 0) = 0 → (x_h M1 (p0 + 8 * k)).1 = 19 ∧ (x_h M1 q).1 = 20 ∧ ∀ M2, M2 = x_si M1 q 3 (x_i M1 (p0 + 8 * k) 4) → Q none M2) := by
          intro M1 res h1 h2 h3 h4
          refine ⟨fun z7 z8 hz7 hz8 c => ?_, fun c => ?_⟩
          · cases res with
            | none => exact absurd rfl c
            | some m =>
              have hfr1 : FrP M M1 (DFr w p0 q) := hfr.tr h1 (fun x hx => by
                rcases hx with h | h | h | h
                · exact Or.inl h
                · exact Or.inr (Or.inl ⟨k, 5, by omega, by omega, by omega, h⟩)
                · exact Or.inr (Or.inl ⟨k, 6, by omega, by omega, by omega, h⟩)
                · exact Or.inr (Or.inl ⟨k, 7, by omega, by omega, by omega, h⟩))
              have hagree : ∀ j, j < k → Ms j = (fun j => if j = k then m else Ms j) j := fun j hj => (if_neg (by omega)).symm
              have hk' : (fun j => if j = k then m else Ms j) k = m := if_pos rfl
              have hs3 := h3.cong (hD k (by omega)).2 hagree
              rw [nI_1]
              refine ih (k + 1) (by omega) M1 (fun j => if j = k then m else Ms j) hfr1 ?_ h2 (fun j hj => ?_) (fun j hj => ?_) z7 z8 hz7 hz8
              · rw [h1.i (by unfold PFr; omega), hqe]
              · by_cases e : j = k
                · subst e; rw [hk']; exact hs3
                · have := (hup j (by omega)).cong (hD j (by omega)).2 (fun j' hj' => hagree j' (by omega))
                  rw [hagree j (by omega)] at this
                  exact this
              · by_cases e : j = k
                · subst e
                  refine ⟨?_, ?_⟩
                  · unfold MsOK; rw [hk']; exact h3.ok (by omega) (hD j (by omega)).2 (fun j' hj' => (hM j' hj').1)
                  · unfold PmI; rw [hk']; exact h4 m rfl
                · obtain ⟨x1, x2⟩ := hM j (by omega)
                  have e2 : (fun j => if j = k then m else Ms j) j = Ms j := if_neg e
                  refine ⟨?_, ?_⟩
                  · unfold MsOK; rw [e2]; exact x1
                  · unfold PmI; rw [e2]; exact x2.fP h1 (by unfold PFr; omega) (by unfold PFr; omega) (by unfold PFr; omega)
          · cases res with
            | some m => exact absurd c (by show ¬ nI 1 = 0; decide)
            | none =>
              have hfr1 : FrP M M1 (DFr w p0 q) := hfr.tr h1 (fun x hx => by
                rcases hx with h | h | h | h
                · exact Or.inl h
                · exact Or.inr (Or.inl ⟨k, 5, by omega, by omega, by omega, h⟩)
                · exact Or.inr (Or.inl ⟨k, 6, by omega, by omega, by omega, h⟩)
                · exact Or.inr (Or.inl ⟨k, 7, by omega, by omega, by omega, h⟩))
              refine ⟨by rw [hfr1.h]; exact hP.1, by rw [hfr1.h]; exact hq1, ?_⟩
              rintro M2 rfl
              have e4 : x_i M1 (p0 + 8 * k) 4 = nI (p_p (D k)) := by
                rw [hfr1.i (nD k _ (by omega) (by omega) (by omega))]; exact (hD k (by omega)).1.2.1
              have eq1 : x_i M1 q = x_i M q := by rw [h1.i (by unfold PFr; omega), hqe]
              rw [e4]
              refine hQs _ Ms k (by omega) (hfr1.tr ((Fr.rf.si (A := [q]) (by simp)).P (P := DFr w p0 q) (fun x hx => by simp at hx; unfold DFr; omega)) (fun _ h => h)) (fun t ht => by rw [xi_nk ht, eq1]) (by rw [xi_eq]) hup h3
        have hpaI : x_i M' (p0 + 8 * k) 3 = nI (p_f (D k)) := ((hD k (by omega)).1.eq (fun x h1 h2 => hfr.i (nD k x (by omega) h1 h2))).1
        have e1 : nI (p_f (D k)) = 1 ↔ p_f (D k) = 1 := by
          obtain ⟨f1, f2, f3, f4, f5, f6, f7, f8, f9⟩ := (hD k (by omega)).2
          exact nI_eq (b := 1) (by omega) (by omega)
        rw [hpaI, e1]
        refine ⟨fun cf => ?_, fun cf => ?_⟩
        · refine vX10_decide_45 _ _ _ _ _ _ _ _ _ _ hz8 ⟨fun _ => ⟨by rw [hfr.h]; exact hw.1, ?_⟩, fun c => absurd rfl c⟩
          exact w_weavePart d (hw.fP hfr) hb' hb (hps.eq hfr.h hfr.r) hpw hrc hcnt (fun j hj => ⟨(hD j hj).1.eq (fun x h1 h2 => hfr.i (nD j x (by omega) h1 h2)), (hD j hj).2⟩) (i := k) (by omega) cf hM (fun M1 res h1 h2 h3 h4 => ⟨_, rfl, fun c => (tail M1 res h1 h2 h3 h4).1 _ _ rfl rfl c, fun c => (tail M1 res h1 h2 h3 h4).2 c⟩)
        · refine vX10_decide_45 _ _ _ _ _ _ _ _ _ _ hz8 ⟨fun c => absurd c (by decide), fun _ => ⟨by rw [hfr.h]; exact hw.1, ?_⟩⟩
          exact w_weaveRowsP d (hw.fP hfr) hb' hb (hps.eq hfr.h hfr.r) hpw hrc (hrs.eq hfr.h hfr.r) hrd (fun j hj => ⟨(hrow j hj).1, (hrow j hj).2.fP hfr (nR j _ (by omega) (by omega) (by omega)) (nR j _ (by omega) (by omega) (by omega)) (nR j _ (by omega) (by omega) (by omega))⟩) hcnt (fun j hj => ⟨(hD j hj).1.eq (fun x h1 h2 => hfr.i (nD j x (by omega) h1 h2)), (hD j hj).2⟩) (i := k) (by omega) cf hM (fun M1 res h1 h2 h3 h4 => ⟨_, rfl, fun c => (tail M1 res h1 h2 h3 h4).2 c, fun c => (tail M1 res h1 h2 h3 h4).1 _ _ rfl rfl c⟩)
  refine eX10_decide w pa q ra _ _ ⟨hw.1, ?_⟩
  rintro M2 rfl
  have g : Fr M (x_si M w 11 (nI b)) [w] := Fr.rf.si (by simp)
  exact key cnt 0 (by omega) _ (fun _ => (0, fun _ _ => 0, fun _ => 0)) (g.P (fun x hx => by simp at hx; unfold DFr; omega)) (g.i (by simp <;> omega)) xi_eq (fun j hj => absurd hj (Nat.not_lt_zero j)) (fun j hj => absurd hj (Nat.not_lt_zero j)) none none rfl rfl
end DecideC
