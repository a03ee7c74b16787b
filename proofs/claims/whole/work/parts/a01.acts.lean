/-! ===== the pure picture: what is written, and where ===== -/
/-- other ints -/
def x_wi (M : Mem) (f : Nat → Nat → Int32) : Mem := (M.1, M.2.1, f, M.2.2.2.1, M.2.2.2.2)
/-- M' is M, but that the ints of the cells of A are others -/
def FrI (M M' : Mem) (A : List Nat) : Prop := ∃ f, M' = x_wi M f ∧ ∀ q, q ∉ A → f q = x_i M q
theorem xi_si {M : Mem} {a k b j : Nat} {v : Int32} : x_i (x_si M a k v) b j = if b = a ∧ j = k then v else x_i M b j := rfl
theorem FrI.rf {M : Mem} {A : List Nat} : FrI M M A := ⟨x_i M, rfl, fun _ _ => rfl⟩
theorem FrI.si {M M' : Mem} {A : List Nat} {a k : Nat} {v : Int32} (h : FrI M M' A) (ha : a ∈ A) : FrI M (x_si M' a k v) A := by
  obtain ⟨f, rfl, hf⟩ := h
  refine ⟨up2 f a k v, rfl, fun q hq => ?_⟩
  rw [up2_ne (fun e => hq (by rw [e]; exact ha)), hf q hq]
theorem FrI.tr {M M' M'' : Mem} {A B : List Nat} (h : FrI M M' A) (h2 : FrI M' M'' B) (hB : ∀ q ∈ B, q ∈ A) : FrI M M'' A := by
  obtain ⟨f, rfl, hf⟩ := h
  obtain ⟨g, rfl, hg⟩ := h2
  exact ⟨g, rfl, fun q hq => (hg q (fun h => hq (hB q h))).trans (hf q hq)⟩
theorem FrI.h {M M' : Mem} {A : List Nat} (h : FrI M M' A) : x_h M' = x_h M := by obtain ⟨f, rfl, -⟩ := h; rfl
theorem FrI.r {M M' : Mem} {A : List Nat} (h : FrI M M' A) : x_r M' = x_r M := by obtain ⟨f, rfl, -⟩ := h; rfl
theorem FrI.l {M M' : Mem} {A : List Nat} (h : FrI M M' A) : x_l M' = x_l M := by obtain ⟨f, rfl, -⟩ := h; rfl
theorem FrI.n {M M' : Mem} {A : List Nat} (h : FrI M M' A) : x_n M' = x_n M := by obtain ⟨f, rfl, -⟩ := h; rfl
theorem FrI.i {M M' : Mem} {A : List Nat} (h : FrI M M' A) {q : Nat} (hq : q ∉ A) : x_i M' q = x_i M q := by obtain ⟨f, rfl, hf⟩ := h; exact hf q hq
/-! ===== Acts ===== -/
/-- the object o of Acts: its trace tb holds l, it acts for a row of kind kd, number nu, width wi -/
def AA (M : Mem) (o tb : Nat) (kd nu wi : Int32) (l : List Int32) : Prop :=
  (x_h M o).1 = 16 ∧ x_r M o 0 = some tb ∧ x_h M tb = (1, 50) ∧ x_i M o 1 = nI l.length ∧ (∀ j, j < l.length → x_i M tb j = l.getD j 0) ∧ x_i M o 2 = kd ∧ x_i M o 3 = nu ∧ x_i M o 4 = wi ∧ tb ≠ o
section ActsC
variable {G : GG} {M : Mem} {o tb : Nat} {kd nu wi : Int32} {l : List Int32}
theorem k_ran (d : Nat) (h : AA M o tb kd nu wi l) (hl : l.length < 50) (b : Int32) : Call G (d + 1) 0 0 mX0_ran [.ref o, .int b] M (fun r M' => r = none ∧ AA M' o tb kd nu wi (l ++ [b]) ∧ FrI M M' [o, tb]) := by
  obtain ⟨h1, h2, h3, h4, h5, h6, h7, h8, h9⟩ := h
  refine eX0_ran o b ⟨h1, fun c => ?_, fun _ => ⟨tb, h2, by rw [h3], ?_, ?_⟩⟩
  · rw [h4] at c
    exact absurd c (nI_ge (b := 50) hl (by decide))
  · rw [h3, h4]
    exact vp_in_nI hl (by omega)
  · rintro M6 rfl M7 rfl
    rw [h4, nI_clamp (by omega)]
    refine ⟨rfl, ⟨h1, h2, h3, ?_, fun j hj => ?_, ?_, ?_, ?_, h9⟩, (FrI.rf.si (by simp)).si (by simp)⟩
    · rw [xi_si, if_pos ⟨rfl, rfl⟩, xi_si, if_neg (fun e => h9 e.1.symm), h4, List.length_append]
      exact nI_1 _
    · rw [xi_si, if_neg (fun e => h9 e.1), xi_si]
      by_cases e : j = l.length
      · subst e
        rw [if_pos ⟨rfl, rfl⟩]
        simp
      · rw [if_neg (fun q => e q.2), h5 j (by rw [List.length_append] at hj; simp at hj; omega)]
        rw [List.getD_eq_getElem?_getD, List.getD_eq_getElem?_getD, List.getElem?_append_left (by rw [List.length_append] at hj; simp at hj; omega)]
    · rw [xi_si, if_neg (fun e => by simp at e), xi_si, if_neg (fun e => h9 e.1.symm), h6]
    · rw [xi_si, if_neg (fun e => by simp at e), xi_si, if_neg (fun e => h9 e.1.symm), h7]
    · rw [xi_si, if_neg (fun e => by simp at e), xi_si, if_neg (fun e => h9 e.1.symm), h8]
/-- the bodies of an act of a row of kind k, and what it answers -/
def gr (k : Int32) : Bool := decide (k = 1 ∨ k = 2)
theorem gr_t {k : Int32} (h : k = 1 ∨ k = 2) : gr k = true := decide_eq_true h
theorem gr_f {k : Int32} (h : ¬ (k = 1 ∨ k = 2)) : gr k = false := decide_eq_false h
theorem k_isGrown (d : Nat) (h : AA M o tb kd nu wi l) : Call G (d + 1) 0 0 mX0_isGrown [.ref o] M (fun r M' => M' = M ∧ ((gr kd = true ∧ r = some (.int 1)) ∨ (gr kd = false ∧ r = some (.int 0)))) := by
  obtain ⟨h1, h2, h3, h4, h5, h6, h7, h8, h9⟩ := h
  refine eX0_isGrown o ⟨h1, fun c => ⟨rfl, Or.inl ⟨gr_t (Or.inl (h6.symm.trans c)), rfl⟩⟩, fun c => ⟨fun c2 => ⟨rfl, Or.inr ⟨gr_f ?_, rfl⟩⟩, fun c2 => ⟨rfl, Or.inl ⟨gr_t (Or.inr (h6.symm.trans c2)), rfl⟩⟩⟩⟩
  rintro (e | e)
  · exact c (h6.trans e)
  · exact c2 (h6.trans e)
def sRead (kd nu x : Int32) : Int32 × List Int32 := if gr kd = true then ((x + nu) * 2, [20, 10]) else (x + nu, [10])
theorem k_reading (d : Nat) (h : AA M o tb kd nu wi l) (hl : l.length < 48) (x : Int32) : Call G (d + 3) 0 0 mX0_reading [.ref o, .int x] M (fun r M' => r = some (.int (sRead kd nu x).1) ∧ AA M' o tb kd nu wi (l ++ (sRead kd nu x).2) ∧ FrI M M' [o, tb]) := by
  refine eX0_reading o x ⟨h.1, Call.mono (k_isGrown (d + 1) h) ?_⟩
  rintro r M' ⟨rfl, hr⟩
  rcases hr with ⟨hg, rfl⟩ | ⟨hg, rfl⟩
  · refine ⟨1, rfl, fun c => absurd c (by decide), fun _ => ⟨h.1, Call.mono (k_ran (d + 1) h (by omega) 20) ?_⟩⟩
    rintro r M1 ⟨rfl, h2, h3⟩
    refine ⟨rfl, h2.1, Call.mono (k_ran (d + 1) h2 (by simp; omega) 10) ?_⟩
    rintro r M2 ⟨rfl, h4, h5⟩
    have e := h4.2.2.2.2.2.2.1
    refine ⟨rfl, h4.1, Call.mono (k_isGrown (d + 1) h4) ?_⟩
    rintro r M3 ⟨rfl, hr⟩
    rcases hr with ⟨hg', rfl⟩ | ⟨hg', rfl⟩
    · refine ⟨1, rfl, fun c => absurd c (by decide), fun _ => ?_⟩
      rw [sRead, if_pos hg, e]
      exact ⟨rfl, by simpa using h4, h3.tr h5 (fun _ h => h)⟩
    · rw [hg] at hg'; cases hg'
  · refine ⟨0, rfl, fun _ => ⟨h.1, Call.mono (k_ran (d + 1) h (by omega) 10) ?_⟩, fun c => absurd rfl c⟩
    rintro r M2 ⟨rfl, h4, h5⟩
    have e := h4.2.2.2.2.2.2.1
    refine ⟨rfl, h4.1, Call.mono (k_isGrown (d + 1) h4) ?_⟩
    rintro r M3 ⟨rfl, hr⟩
    rcases hr with ⟨hg', rfl⟩ | ⟨hg', rfl⟩
    · rw [hg] at hg'; cases hg'
    · refine ⟨0, rfl, fun _ => ?_, fun c => absurd rfl c⟩
      rw [sRead, if_neg (by rw [hg]; decide), e]
      exact ⟨rfl, h4, h5⟩
/-- step: the bodies and the answer -/
def sStep (kd nu x : Int32) : Int32 × List Int32 :=
  if kd = 2 then ((sRead kd nu x).1 * 3 + 5, 30 :: 11 :: (sRead kd nu x).2)
  else if kd = 4 then ((sRead kd nu (x - 1)).1 * 3, 50 :: 11 :: (sRead kd nu (x - 1)).2)
  else ((sRead kd nu x).1 * 3, 11 :: (sRead kd nu x).2)
def sJoin (kd nu wi x : Int32) : Int32 × List Int32 :=
  if kd = 2 then ((x ^^^ wi) - x, [31, 12]) else if kd = 3 then ((x ^^^ wi) * nu, [40, 12]) else (x ^^^ wi, [12])
theorem sRead_len (kd nu x : Int32) : (sRead kd nu x).2.length ≤ 2 := by
  unfold sRead
  split <;> simp
/-- a step's middle: from the test for the sought on -/
def sPS (kd nu x : Int32) : Int32 × List Int32 := if kd = 4 then ((sRead kd nu (x - 1)).1 * 3, 50 :: 11 :: (sRead kd nu (x - 1)).2) else ((sRead kd nu x).1 * 3, 11 :: (sRead kd nu x).2)
theorem k_step16 (d : Nat) (h : AA M o tb kd nu wi l) (hl : l.length < 45) (x : Int32) {Q : Option Value → Mem → Prop} (hQ : ∀ M', AA M' o tb kd nu wi (l ++ (sPS kd nu x).2) → FrI M M' [o, tb] → Q (some (.int (if kd = 2 then (sPS kd nu x).1 + 5 else (sPS kd nu x).1))) M') : LX0_stepping_16 G (d + 4) 0 0 o x x M Q := by
  have hk := h.2.2.2.2.2.1
  refine vX0_stepping_16 o x x ⟨h.1, fun c => ?_, fun c => ?_⟩
  · rw [hk] at c
    rw [sPS, if_neg c] at hQ
    refine Call.mono (k_ran (d + 3) h (by omega) 11) ?_
    rintro r M1 ⟨rfl, h2, h3⟩
    refine ⟨rfl, h2.1, Call.mono (k_reading (d + 1) h2 (by simp; omega) x) ?_⟩
    rintro r M2 ⟨rfl, h4, h5⟩
    have hk4 := h4.2.2.2.2.2.1
    have q := hQ _ (by simpa using h4) (h3.tr h5 (fun _ h => h))
    refine ⟨_, rfl, h4.1, fun c2 => ?_, fun c2 => ?_⟩
    · rw [hk4] at c2
      rw [if_neg c2] at q
      exact q
    · rw [hk4] at c2
      rw [if_pos c2] at q
      exact q
  · rw [hk] at c
    rw [sPS, if_pos c] at hQ
    refine Call.mono (k_ran (d + 3) h (by omega) 50) ?_
    rintro r M0 ⟨rfl, g2, g3⟩
    refine ⟨rfl, g2.1, Call.mono (k_ran (d + 3) g2 (by simp; omega) 11) ?_⟩
    rintro r M1 ⟨rfl, h2, h3⟩
    refine ⟨rfl, h2.1, Call.mono (k_reading (d + 1) h2 (by simp; omega) (x - 1)) ?_⟩
    rintro r M2 ⟨rfl, h4, h5⟩
    have hk4 := h4.2.2.2.2.2.1
    have q := hQ _ (by simpa using h4) ((g3.tr h3 (fun _ h => h)).tr h5 (fun _ h => h))
    refine ⟨_, rfl, h4.1, fun c2 => ?_, fun c2 => ?_⟩
    · rw [hk4] at c2
      rw [if_neg c2] at q
      exact q
    · rw [hk4] at c2
      rw [if_pos c2] at q
      exact q
theorem k_stepping (d : Nat) (h : AA M o tb kd nu wi l) (hl : l.length < 44) (x : Int32) : Call G (d + 5) 0 0 mX0_stepping [.ref o, .int x] M (fun r M' => r = some (.int (sStep kd nu x).1) ∧ AA M' o tb kd nu wi (l ++ (sStep kd nu x).2) ∧ FrI M M' [o, tb]) := by
  have hk := h.2.2.2.2.2.1
  refine eX0_stepping o x ⟨h.1, fun c => ?_, fun c => ?_⟩
  · rw [hk] at c
    refine k_step16 d h (by omega) x (fun M' h2 h3 => ?_)
    have e : sStep kd nu x = sPS kd nu x := by rw [sStep, if_neg c, sPS]
    rw [if_neg c, e]
    exact ⟨rfl, h2, h3⟩
  · rw [hk] at c
    refine Call.mono (k_ran (d + 3) h (by omega) 30) ?_
    rintro r M1 ⟨rfl, h2, h3⟩
    refine ⟨rfl, k_step16 d h2 (by simp; omega) x (fun M' h4 h5 => ?_)⟩
    have e : sPS kd nu x = ((sRead kd nu x).1 * 3, 11 :: (sRead kd nu x).2) := by rw [sPS, if_neg (by rw [c]; decide)]
    rw [e] at h4
    rw [if_pos c, e, sStep, if_pos c]
    exact ⟨rfl, by simpa using h4, h3.tr h5 (fun _ h => h)⟩
theorem k_join28 (d : Nat) (h : AA M o tb kd nu wi l) (hl : l.length < 50) (x : Int32) {Q : Option Value → Mem → Prop} (hQ : ∀ M', AA M' o tb kd nu wi (l ++ [12]) → FrI M M' [o, tb] → Q (some (.int (sJoin kd nu wi x).1)) M') : LX0_joining_28 G (d + 1) 0 0 o x M Q := by
  refine vX0_joining_28 o x ⟨h.1, Call.mono (k_ran d h hl 12) ?_⟩
  rintro r M1 ⟨rfl, h2, h3⟩
  have hk := h2.2.2.2.2.2.1
  have e3 := h2.2.2.2.2.2.2.1
  have e4 := h2.2.2.2.2.2.2.2.1
  have q := hQ _ h2 h3
  refine ⟨rfl, h2.1, fun c => ⟨fun c2 => ?_, fun c2 => ?_⟩, fun c => ?_⟩
  · rw [hk] at c c2
    rw [sJoin, if_neg c, if_neg c2] at q
    rw [e4]
    exact q
  · rw [hk] at c c2
    rw [sJoin, if_neg c, if_pos c2] at q
    rw [e4, e3]
    exact q
  · rw [hk] at c
    rw [sJoin, if_pos c] at q
    rw [e4]
    exact q
theorem k_joining (d : Nat) (h : AA M o tb kd nu wi l) (hl : l.length < 48) (x : Int32) : Call G (d + 3) 0 0 mX0_joining [.ref o, .int x] M (fun r M' => r = some (.int (sJoin kd nu wi x).1) ∧ AA M' o tb kd nu wi (l ++ (sJoin kd nu wi x).2) ∧ FrI M M' [o, tb]) := by
  have hk := h.2.2.2.2.2.1
  refine eX0_joining o x ⟨h.1, fun c => ⟨fun c2 => ?_, fun c2 => ?_⟩, fun c => ?_⟩
  · rw [hk] at c c2
    refine k_join28 (d + 1) h (by omega) x (fun M' h2 h3 => ⟨rfl, ?_, h3⟩)
    rw [sJoin, if_neg c, if_neg c2]
    exact h2
  · rw [hk] at c c2
    refine Call.mono (k_ran (d + 1) h (by omega) 40) ?_
    rintro r M1 ⟨rfl, h2, h3⟩
    refine ⟨rfl, k_join28 (d + 1) h2 (by simp; omega) x (fun M' h4 h5 => ⟨rfl, ?_, h3.tr h5 (fun _ h => h)⟩)⟩
    rw [sJoin, if_neg c, if_pos c2]
    simpa using h4
  · rw [hk] at c
    refine Call.mono (k_ran (d + 1) h (by omega) 31) ?_
    rintro r M1 ⟨rfl, h2, h3⟩
    have hk2 := h2.2.2.2.2.2.1
    refine ⟨rfl, h2.1, fun _ => ?_, fun c2 => ?_⟩
    · refine k_join28 (d + 1) h2 (by simp; omega) x (fun M' h4 h5 => ⟨rfl, ?_, h3.tr h5 (fun _ h => h)⟩)
      rw [sJoin, if_pos c]
      simpa using h4
    · rw [hk2, c] at c2
      exact absurd c2 (by decide)
def sPlainTell (kd nu wi x : Int32) : Int32 × List Int32 := ((sStep kd nu x).1 - (sJoin kd nu wi x).1, 13 :: ((sStep kd nu x).2 ++ (sJoin kd nu wi x).2))
def sTell (kd nu wi x : Int32) : Int32 × List Int32 :=
  if gr kd = true then ((sPlainTell kd nu wi (x + 1)).1, 21 :: (sPlainTell kd nu wi (x + 1)).2)
  else if kd = 4 then ((sJoin kd nu wi x).1 ^^^ (sPlainTell kd nu wi x).1, 51 :: ((sJoin kd nu wi x).2 ++ (sPlainTell kd nu wi x).2))
  else sPlainTell kd nu wi x
theorem sStep_len (kd nu x : Int32) : (sStep kd nu x).2.length ≤ 4 := by
  have := sRead_len kd nu x
  have := sRead_len kd nu (x - 1)
  unfold sStep
  split
  · simp; omega
  · split <;> simp <;> omega
theorem sJoin_len (kd nu wi x : Int32) : (sJoin kd nu wi x).2.length ≤ 2 := by
  unfold sJoin
  split
  · simp
  · split <;> simp
theorem k_tell21 (d : Nat) (h : AA M o tb kd nu wi l) (hl : l.length < 24) (x y : Int32) {Q : Option Value → Mem → Prop} (hQ : ∀ M', AA M' o tb kd nu wi (l ++ (if kd = 4 then 51 :: ((sJoin kd nu wi x).2 ++ (sPlainTell kd nu wi y).2) else (sPlainTell kd nu wi y).2)) → FrI M M' [o, tb] → Q (some (.int (if kd = 4 then (sJoin kd nu wi x).1 ^^^ (sPlainTell kd nu wi y).1 else (sPlainTell kd nu wi y).1))) M') : LX0_telling_21 G (d + 6) 0 0 o x y 0 M Q := by
  have hk := h.2.2.2.2.2.1
  have := sStep_len kd nu y
  have := sJoin_len kd nu wi x
  refine vX0_telling_21 o x y 0 ⟨h.1, fun c => ?_, fun c => ?_⟩
  · rw [hk] at c
    rw [if_neg c, if_neg c] at hQ
    refine Call.mono (k_ran (d + 5) h (by omega) 13) ?_
    rintro r M1 ⟨rfl, h2, h3⟩
    refine ⟨rfl, h2.1, Call.mono (k_stepping (d + 1) h2 (by simp; omega) y) ?_⟩
    rintro r M2 ⟨rfl, h4, h5⟩
    refine ⟨_, rfl, h4.1, Call.mono (k_joining (d + 3) h4 (by simp; omega) y) ?_⟩
    rintro r M3 ⟨rfl, h6, h7⟩
    refine ⟨_, rfl, ?_⟩
    rw [Int32.zero_xor]
    exact hQ _ (by simpa [sPlainTell] using h6) ((h3.tr h5 (fun _ h => h)).tr h7 (fun _ h => h))
  · rw [hk] at c
    rw [if_pos c, if_pos c] at hQ
    refine Call.mono (k_ran (d + 5) h (by omega) 51) ?_
    rintro r M1 ⟨rfl, g2, g3⟩
    refine ⟨rfl, g2.1, Call.mono (k_joining (d + 3) g2 (by simp; omega) x) ?_⟩
    rintro r M2 ⟨rfl, g4, g5⟩
    refine ⟨_, rfl, g4.1, Call.mono (k_ran (d + 5) g4 (by simp; omega) 13) ?_⟩
    rintro r M3 ⟨rfl, h2, h3⟩
    refine ⟨rfl, h2.1, Call.mono (k_stepping (d + 1) h2 (by simp; omega) y) ?_⟩
    rintro r M4 ⟨rfl, h4, h5⟩
    refine ⟨_, rfl, h4.1, Call.mono (k_joining (d + 3) h4 (by simp; omega) y) ?_⟩
    rintro r M5 ⟨rfl, h6, h7⟩
    refine ⟨_, rfl, ?_⟩
    exact hQ _ (by simpa [sPlainTell] using h6) ((((g3.tr g5 (fun _ h => h)).tr h3 (fun _ h => h)).tr h5 (fun _ h => h)).tr h7 (fun _ h => h))
theorem k_telling (d : Nat) (h : AA M o tb kd nu wi l) (hl : l.length < 20) (x : Int32) : Call G (d + 7) 0 0 mX0_telling [.ref o, .int x] M (fun r M' => r = some (.int (sTell kd nu wi x).1) ∧ AA M' o tb kd nu wi (l ++ (sTell kd nu wi x).2) ∧ FrI M M' [o, tb]) := by
  refine eX0_telling o x ⟨h.1, Call.mono (k_isGrown (d + 5) h) ?_⟩
  rintro r M' ⟨rfl, hr⟩
  rcases hr with ⟨hg, rfl⟩ | ⟨hg, rfl⟩
  · have h4 : ¬ kd = 4 := by
      intro e
      rw [e] at hg
      exact absurd hg (by decide)
    refine ⟨1, rfl, fun c => absurd c (by decide), fun _ => ⟨h.1, Call.mono (k_ran (d + 5) h (by omega) 21) ?_⟩⟩
    rintro r M1 ⟨rfl, h2, h3⟩
    refine ⟨rfl, k_tell21 d h2 (by simp; omega) x (x + 1) (fun M2 h4' h5 => ?_)⟩
    rw [if_neg h4] at h4'
    rw [if_neg h4, sTell, if_pos hg]
    exact ⟨rfl, by simpa using h4', h3.tr h5 (fun _ h => h)⟩
  · refine ⟨0, rfl, fun _ => k_tell21 d h (by omega) x x (fun M2 h4 h5 => ?_), fun c => absurd rfl c⟩
    have hg' : ¬ gr kd = true := by rw [hg]; decide
    by_cases c : kd = 4
    · rw [if_pos c] at h4
      rw [if_pos c, sTell, if_neg hg', if_pos c]
      exact ⟨rfl, h4, h5⟩
    · rw [if_neg c] at h4
      rw [if_neg c, sTell, if_neg hg', if_neg c]
      exact ⟨rfl, h4, h5⟩
/-- an act's bodies and its answer -/
def sAct (kd nu wi a x : Int32) : Int32 × List Int32 := if a = 0 then sRead kd nu x else if a = 1 then sStep kd nu x else if a = 2 then sJoin kd nu wi x else sTell kd nu wi x
theorem k_run (d : Nat) (h : (x_h M o).1 = 16) (hr : x_r M o 0 = some tb) (ht : x_h M tb = (1, 50)) (hne : tb ≠ o) (kd nu wi a x : Int32) : Call G (d + 8) 0 0 mX0_run [.ref o, .int kd, .int nu, .int wi, .int a, .int x] M (fun r M' => r = some (.int (sAct kd nu wi a x).1) ∧ AA M' o tb kd nu wi (sAct kd nu wi a x).2 ∧ FrI M M' [o, tb]) := by
  refine eX0_run o kd nu wi a x ⟨h, ?_⟩
  rintro M2 rfl M3 rfl M4 rfl M5 rfl
  have h0 : AA (x_si (x_si (x_si (x_si M o 2 kd) o 3 nu) o 4 wi) o 1 0) o tb kd nu wi [] := ⟨h, hr, ht, by simp only [xi_si]; simp; rfl, fun j hj => absurd hj (Nat.not_lt_zero j), by simp only [xi_si]; simp, by simp only [xi_si]; simp, by simp only [xi_si]; simp, hne⟩
  have f0 : FrI M (x_si (x_si (x_si (x_si M o 2 kd) o 3 nu) o 4 wi) o 1 0) [o, tb] := (((FrI.rf.si (by simp)).si (by simp)).si (by simp)).si (by simp)
  refine ⟨fun c => Call.mono (k_reading (d + 4) h0 (by simp) x) ?_, fun c => Call.mono (k_stepping (d + 2) h0 (by simp) x) ?_, fun c => Call.mono (k_joining (d + 4) h0 (by simp) x) ?_, fun c => Call.mono (k_telling d h0 (by simp) x) ?_⟩
  · subst c
    rintro r M1 ⟨rfl, h2, h3⟩
    exact ⟨_, rfl, rfl, by simpa [sAct] using h2, f0.tr h3 (fun _ h => h)⟩
  · subst c
    rintro r M1 ⟨rfl, h2, h3⟩
    exact ⟨_, rfl, rfl, by simpa [sAct] using h2, f0.tr h3 (fun _ h => h)⟩
  · subst c
    rintro r M1 ⟨rfl, h2, h3⟩
    exact ⟨_, rfl, rfl, by simpa [sAct] using h2, f0.tr h3 (fun _ h => h)⟩
  · rintro r M1 ⟨rfl, h2, h3⟩
    rw [sAct, if_neg c.1, if_neg c.2.1, if_neg c.2.2]
    exact ⟨_, rfl, rfl, by simpa using h2, f0.tr h3 (fun _ h => h)⟩
end ActsC
