/-! ===== both alike: sheet ===== -/
section OpSheet
variable {G : GG} {M M' : Mem} {e m b : Nat} {S S' : Sg} {R K : Nat → Mc} {Q : Option Value → Mem → Prop}
def goodSh (x y z : Int32) (s n : Nat) : Prop := s < 6 ∧ x = nI s ∧ ((y = -1 ∧ n = 0) ∨ (y ≠ -1 ∧ (y = 0 ∨ y = 1 ∨ y = 2) ∧ n ≤ 40 ∧ z = nI n))
theorem goodSh.one {x y z : Int32} {s n s' n' : Nat} (h : goodSh x y z s n) (h' : goodSh x y z s' n') : s = s' ∧ n = n' := by
  obtain ⟨h1, h2, h3⟩ := h
  obtain ⟨g1, g2, g3⟩ := h'
  refine ⟨nI_same h2 g2 (by omega) (by omega), ?_⟩
  rcases h3 with ⟨a, b⟩ | ⟨a, b, c, d⟩
  · rcases g3 with ⟨a', b'⟩ | ⟨a', b', c', d'⟩
    · omega
    · exact absurd a a'
  · rcases g3 with ⟨a', b'⟩ | ⟨a', b', c', d'⟩
    · exact absurd a' a
    · exact nI_same d d' (by omega) (by omega)
theorem y3_cases {y : Int32} (h1 : -1 ≤ y.toInt) (h2 : y.toInt ≤ 2) : y = -1 ∨ y = 0 ∨ y = 1 ∨ y = 2 := by
  have : y.toInt = -1 ∨ y.toInt = 0 ∨ y.toInt = 1 ∨ y.toInt = 2 := by omega
  rcases this with h | h | h | h
  · exact Or.inl (Int32.toInt_inj.mp h)
  · exact Or.inr (Or.inl (Int32.toInt_inj.mp h))
  · exact Or.inr (Or.inr (Or.inl (Int32.toInt_inj.mp h)))
  · exact Or.inr (Or.inr (Or.inr (Int32.toInt_inj.mp h)))
theorem y3_in {y : Int32} (h : y = -1 ∨ y = 0 ∨ y = 1 ∨ y = 2) : -1 ≤ y.toInt ∧ y.toInt ≤ 2 := by
  rcases h with rfl | rfl | rfl | rfl <;> decide
theorem w_sheet (d : Nat) (hS : CoS M e) {x y z : Int32} (hQ0 : (∀ s n, ¬ goodSh x y z s n) → Q (some (.int (-1))) (x_si M e 15 1)) (hQ1 : ∀ s n, goodSh x y z s n → Q (some (.int 1)) (x_si (x_fi (x_si (x_si M (e + 11) s y) (e + 12) s (nI n)) (e + 5 + s) 0 40 0) e 15 0)) : Call G (d + 2) 0 0 mX11_sheet [.ref e, .int x, .int y, .int z] M Q := by
  obtain ⟨a1, a2, a3, a4, a5, a6, a7, a8, a9, a10, a11, a12, b1, b2, b3, b4, b5, b6, b7, b8, -⟩ := hS
  have l46 : ∀ s n, goodSh x y z s n → LX11_sheet_46 G (d + 1) 0 0 e x y z M Q := by
    intro s n hg
    have hq1 := hQ1 s n hg
    obtain ⟨hs, ex, hyz⟩ := hg
    have hcl : x.toNatClampNeg = s := by rw [ex, nI_clamp (by omega)]
    have hin : vp_in x 6 := by rw [ex]; exact vp_in_nI hs (by omega)
    have tail : ∀ v : Int32, v = nI n → ∀ M10, M10 = x_si (x_si M (e + 11) x.toNatClampNeg y) (e + 12) x.toNatClampNeg v → ∃ b11, x_r M10 e 3 = some b11 ∧ (4 ≤ (x_h M b11).1 ∧ (x_h M b11).1 < 8) ∧ vp_in x (x_h M b11).2 ∧ (∃ b14, x_r M10 b11 x.toNatClampNeg = some b14 ∧ Call G (d + 1) 0 0 mJ7_fill_53178 [.ref b14, .int 0] M10 (fun r15 M16 => r15 = none ∧ (x_h M16 e).1 = 27 ∧ Call G (d + 1) 0 0 mX11_done [.ref e, .int 1] M16 (fun r18 M19 => ∃ v20 : Int32, r18 = some (.int v20) ∧ Q (some (.int v20)) M19))) := by
      rintro v rfl M10 rfl
      rw [hcl]
      refine ⟨e + 4, a5, by rw [b4]; exact ⟨by decide, by decide⟩, by rw [b4]; exact hin, e + 5 + s, (b5 s hs).1, ?_⟩
      refine w_fillI (n := 40) d ?_ (by omega) ?_
      · exact (b5 s hs).2
      refine ⟨rfl, a1, ?_⟩
      refine w_done d ?_ ?_
      · exact a1
      exact ⟨_, rfl, hq1⟩
    refine vX11_sheet_46 _ _ _ _ ⟨a1, e + 11, a6, by rw [b6], by rw [b6]; exact hin, ?_⟩
    rintro M5 rfl
    refine ⟨e + 12, a7, fun yn => ⟨by rw [b7], by rw [b7]; exact hin, tail z ?_⟩, fun ym => ⟨by rw [b7], by rw [b7]; exact hin, tail 0 ?_⟩⟩
    · rcases hyz with ⟨c, -⟩ | ⟨-, -, -, c⟩
      · exact absurd c yn
      · exact c
    · rcases hyz with ⟨-, c⟩ | ⟨c, -, -, -⟩
      · rw [c]; rfl
      · exact absurd ym c
  have refuse : (∀ s n, ¬ goodSh x y z s n) → Call G (d + 1) 0 0 mX11_refuse [.ref e, .int 1] M (fun r6 M7 => ∃ v8 : Int32, r6 = some (.int v8) ∧ Q (some (.int v8)) M7) := fun h => w_refuse d a1 ⟨_, rfl, hQ0 h⟩
  refine eX11_sheet e x y z ?_
  show Call G (d + 1) 0 0 mX11_within [.int x, .int (nI 6)] M _
  refine w_in0 d (by omega) (fun h => ⟨0, rfl, fun _ => ⟨a1, refuse (fun s n hg => h s hg.1 hg.2.1)⟩, fun c => absurd rfl c⟩) (fun s hs es => ⟨1, rfl, fun c => absurd c (by decide), fun _ => ⟨fun c => ⟨a1, refuse (fun s' n hg => ?_)⟩, fun n1 => ⟨fun n2 => ⟨fun ym => l46 s 0 ⟨hs, es, Or.inl ⟨ym, rfl⟩⟩, fun yn => ⟨fun zneg => ⟨a1, refuse (fun s' n hg => ?_)⟩, fun zn => ⟨fun z40 => ?_, fun z41 => ⟨a1, refuse (fun s' n hg => ?_)⟩⟩⟩⟩, fun n2 => ⟨a1, refuse (fun s' n hg => ?_)⟩⟩⟩⟩)
  · rcases hg.2.2 with ⟨rfl, -⟩ | ⟨-, rfl | rfl | rfl, -, -⟩ <;> exact absurd c (by decide)
  · rcases hg.2.2 with ⟨c, -⟩ | ⟨-, -, hn, rfl⟩
    · exact absurd c yn
    · rw [Int32.lt_iff_toInt_lt, nI_toInt (by omega), show (0 : Int32).toInt = 0 from rfl] at zneg
      omega
  · rw [Int32.lt_iff_toInt_lt, show (0 : Int32).toInt = 0 from rfl] at zn
    rw [Int32.le_iff_toInt_le, show (40 : Int32).toInt = 40 from rfl] at z40
    obtain ⟨n, hn, ez⟩ := nI_ofInt (x := z) (n := 41) (by omega) (by omega) (by omega)
    rw [Int32.lt_iff_toInt_lt, show (-1 : Int32).toInt = -1 from rfl] at n1
    rw [Int32.le_iff_toInt_le, show (2 : Int32).toInt = 2 from rfl] at n2
    refine l46 s n ⟨hs, es, Or.inr ⟨yn, ?_, by omega, ez⟩⟩
    rcases y3_cases (y := y) (by omega) (by omega) with c | c
    · exact absurd c yn
    · exact c
  · rcases hg.2.2 with ⟨c, -⟩ | ⟨-, -, hn, rfl⟩
    · exact absurd c yn
    · rw [Int32.le_iff_toInt_le, nI_toInt (by omega), show (40 : Int32).toInt = 40 from rfl] at z41
      omega
  · rcases hg.2.2 with ⟨rfl, -⟩ | ⟨-, rfl | rfl | rfl, -, -⟩ <;> exact absurd (by decide) n2
theorem ur_sheet (d : Nat) (hS : ReS M m) {x y z : Int32} (hQ0 : (∀ s n, ¬ goodSh x y z s n) → Q (some (.int (-1))) (x_si M m 22 1)) (hQ1 : ∀ s n, goodSh x y z s n → Q (some (.int 1)) (x_si (x_fi (x_si (x_si M (m + 16) s y) (m + 17) s (nI n)) (m + 18) (40 * s) (40 * s + 40) 0) m 22 0)) : Call G (d + 2) 0 0 mX12_sheet [.ref m, .int x, .int y, .int z] M Q := by
  have l65 : ∀ s n, goodSh x y z s n → ∀ r i, r + i = 40 → LX12_sheet_65 G (d + 1) 0 0 m x y z (nI i) (x_fi (x_si (x_si M (m + 16) s y) (m + 17) s (nI n)) (m + 18) (40 * s) (40 * s + i) 0) Q := by
    intro s n hg r
    have hs := hg.1
    have ex := hg.2.1
    have hq1 := hQ1 s n hg
    induction r with
    | zero =>
      intro i hi
      refine vX12_sheet_65 _ _ _ _ _ ⟨fun _ => ⟨hS.1, ?_⟩, fun q => absurd ?_ q⟩
      · refine u_done d ?_ ?_
        · exact hS.eq rfl rfl
        rw [show i = 40 by omega]
        exact ⟨_, rfl, hq1⟩
      · rw [show (40 : Int32) = nI 40 from rfl, nI_leI (by omega) (by omega)]
        omega
    | succ r ih =>
      intro i hi
      refine vX12_sheet_65 _ _ _ _ _ ⟨fun q => absurd q ?_, fun _ => ⟨hS.1, m + 18, hS.r18, ?_, ?_, ?_⟩⟩
      · rw [show (40 : Int32) = nI 40 from rfl, nI_leI (by omega) (by omega)]
        omega
      · show (x_h M (m + 18)).1 = 1
        rw [hS.h18]
      · show vp_in _ (x_h M (m + 18)).2
        rw [ex, e40_, hS.h18]
        exact vp_in_nI (show 40 * s + i < 240 by omega) (by omega)
      · rintro M10 rfl
        rw [ex, e40_, nI_clamp (by omega), xf_s (by omega), nI_1, ← ex]
        exact ih (i + 1) (by omega)
  have start : ∀ s n, goodSh x y z s n → ∀ v : Int32, v = nI n → LX12_sheet_65 G (d + 1) 0 0 m x y z 0 (x_si (x_si M (m + 16) x.toNatClampNeg y) (m + 17) x.toNatClampNeg v) Q := by
    rintro s n hg v rfl
    have := l65 s n hg 40 0 (by omega)
    have hcl : x.toNatClampNeg = s := by rw [hg.2.1, nI_clamp (by have := hg.1; omega)]
    rw [show 40 * s + 0 = 40 * s from rfl, xf_0] at this
    rw [hcl]
    exact this
  refine eX12_sheet m x y z ?_
  show Call G (d + 1) 0 0 mX12_in [.int x, .int 0, .int (nI 6 - 1)] M _
  refine ur_in0 d (by omega) (fun h => ⟨0, rfl, fun _ => ⟨hS.1, u_refused d hS ⟨_, rfl, hQ0 (fun s n hg => h s hg.1 hg.2.1)⟩⟩, fun c => absurd rfl c⟩) (fun s hs es => ⟨1, rfl, fun c => absurd c (by decide), fun _ => u_inI d (x := y) (y := -1) (z := 2) (by omega) (by omega) (by omega) (by omega) ?_⟩)
  have hin : vp_in x 6 := by rw [es]; exact vp_in_nI hs (by omega)
  by_cases c : -1 ≤ y.toInt ∧ y.toInt ≤ 2
  · rw [if_pos c]
    refine ⟨_, rfl, fun c => absurd c (by decide), fun _ => ⟨fun ym => ⟨hS.1, m + 16, hS.r16, by rw [hS.h16], by rw [hS.h16]; exact hin, ?_⟩, fun yn => ?_⟩⟩
    · rintro M22 rfl
      refine ⟨m + 17, hS.r17, fun q => absurd ym q, fun _ => ⟨by rw [hS.h17], by rw [hS.h17]; exact hin, ?_⟩⟩
      rintro M30 rfl
      exact start s 0 ⟨hs, es, Or.inl ⟨ym, rfl⟩⟩ 0 rfl
    · show Call G (d + 1) 0 0 mX12_in [.int z, .int 0, .int (nI 41 - 1)] M _
      refine ur_in0 d (by omega) (fun h => ⟨0, rfl, fun c => absurd rfl c, fun _ => ⟨hS.1, u_refused d hS ⟨_, rfl, hQ0 (fun s' n hg => ?_)⟩⟩⟩) (fun n hn en => ⟨1, rfl, fun _ => ⟨hS.1, m + 16, hS.r16, by rw [hS.h16], by rw [hS.h16]; exact hin, ?_⟩, fun c => absurd c (by decide)⟩)
      · rcases hg.2.2 with ⟨c, -⟩ | ⟨-, -, hn, ez⟩
        · exact absurd c yn
        · exact h n (by omega) ez
      · rintro M39 rfl
        refine ⟨m + 17, hS.r17, fun _ => ⟨by rw [hS.h17], by rw [hS.h17]; exact hin, ?_⟩, fun q => absurd q yn⟩
        rintro M44 rfl
        refine start s n ⟨hs, es, Or.inr ⟨yn, ?_, by omega, en⟩⟩ z en
        rcases y3_cases c.1 c.2 with q | q
        · exact absurd q yn
        · exact q
  · rw [if_neg c]
    refine ⟨_, rfl, fun _ => ⟨hS.1, u_refused d hS ⟨_, rfl, hQ0 (fun s' n hg => c (y3_in ?_))⟩⟩, fun q => absurd rfl q⟩
    rcases hg.2.2 with ⟨q, -⟩ | ⟨-, q, -, -⟩
    · exact Or.inl q
    · exact Or.inr q
end OpSheet
