/-! ===== the reference's acts, once more: its other fields stay ===== -/
def MT (F : Nat → Int32) (M : Mem) (o : Nat) : Prop := (x_h M o).1 = 28 ∧ MS M o ∧ ∀ k, k ≠ 24 → x_i M o k = F k
theorem MT.a {F : Nat → Int32} {M : Mem} {o : Nat} (h : MT F M o) (k : Nat) {of kd ln : Nat} (hk : mTab[k]? = some (of, kd, ln)) (h0 : of ≠ 0) : x_r M o k = some (o + of) ∧ (x_h M (o + of)).1 = kd ∧ (x_h M (o + of)).2 = ln := h.2.1.a k hk h0
/-- the reference's row r (of kind kd, width wi) acts; the trace is l -/
def RB (F : Nat → Int32) (M : Mem) (o r : Nat) (kd wi : Int32) (l : List Int32) : Prop := MT F M o ∧ x_i M o 24 = nI l.length ∧ (∀ j, j < l.length → x_i M (o + 19) j = l.getD j 0) ∧ x_i M (o + 1) r = kd ∧ x_i M (o + 2) r = wi ∧ r < 10
section RefActs2
variable {G : GG} {M : Mem} {o r : Nat} {F : Nat → Int32} {kd wi : Int32} {l : List Int32}
theorem q2_ran (d : Nat) (h : RB F M o r kd wi l) (hl : l.length < 50) (b : Int32) : Call G (d + 1) 0 0 mX12_ran [.ref o, .int b] M (fun z M' => z = none ∧ RB F M' o r kd wi (l ++ [b]) ∧ FrI M M' [o, o + 19]) := by
  obtain ⟨h1, h2, h3, h4, h5, h6⟩ := h
  have ha := h1.a 23 rfl (by decide)
  refine eX12_ran o b ⟨h1.1, fun c => ?_, fun _ => ⟨_, ha.1, ha.2.1, ?_, ?_⟩⟩
  · rw [h2] at c
    exact absurd c (nI_ge (b := 50) hl (by decide))
  · rw [ha.2.2, h2]
    exact vp_in_nI hl (by omega)
  · rintro M6 rfl M7 rfl
    rw [h2, nI_clamp (by omega)]
    refine ⟨rfl, ⟨⟨h1.1, h1.2.1.eq rfl rfl, fun k hk => by rw [xi_nk hk, xi_na (by omega)]; exact h1.2.2 k hk⟩, ?_, fun j hj => ?_, ?_, ?_, h6⟩, (FrI.rf.si (by simp)).si (by simp)⟩
    · rw [xi_eq, xi_na (by omega), h2, List.length_append]
      exact nI_1 _
    · rw [xi_na (by omega)]
      by_cases e : j = l.length
      · subst e
        rw [xi_eq]
        simp
      · rw [xi_nk e, h3 j (by rw [List.length_append] at hj; simp at hj; omega)]
        rw [List.getD_eq_getElem?_getD, List.getD_eq_getElem?_getD, List.getElem?_append_left (by rw [List.length_append] at hj; simp at hj; omega)]
    · rw [xi_na (by omega), xi_na (by omega), h4]
    · rw [xi_na (by omega), xi_na (by omega), h5]
theorem q2_isGrown (d : Nat) (h : RB F M o r kd wi l) : Call G (d + 1) 0 0 mX12_isGrown [.ref o, .int (nI r)] M (fun z M' => M' = M ∧ ((gr kd = true ∧ z = some (.int 1)) ∨ (gr kd = false ∧ z = some (.int 0)))) := by
  obtain ⟨h1, h2, h3, h4, h5, h6⟩ := h
  have ha := h1.a 2 rfl (by decide)
  refine eX12_isGrown o (nI r) ⟨h1.1, _, ha.1, ha.2.1, by rw [ha.2.2]; exact vp_in_nI h6 (by decide), ?_⟩
  rw [nI_clamp (by omega), h4]
  refine ⟨fun c => ⟨rfl, Or.inl ⟨gr_t (Or.inl c), rfl⟩⟩, fun c => ⟨fun c2 => ⟨rfl, Or.inr ⟨gr_f ?_, rfl⟩⟩, fun c2 => ⟨rfl, Or.inl ⟨gr_t (Or.inr c2), rfl⟩⟩⟩⟩
  rintro (e | e)
  · exact c e
  · exact c2 e
theorem q2_read0 (d : Nat) (h : RB F M o r kd wi l) (hl : l.length < 48) (x : Int32) : Call G (d + 2) 0 0 mX12_read0 [.ref o, .int (nI r), .int x] M (fun z M' => z = some (.int (sRead kd (nI r) x).1) ∧ RB F M' o r kd wi (l ++ (sRead kd (nI r) x).2) ∧ FrI M M' [o, o + 19]) := by
  refine eX12_read0 o (nI r) x ⟨h.1.1, Call.mono (q2_isGrown d h) ?_⟩
  rintro z M' ⟨rfl, hr⟩
  rcases hr with ⟨hg, rfl⟩ | ⟨hg, rfl⟩
  · refine ⟨1, rfl, fun c => absurd c (by decide), fun _ => ⟨h.1.1, Call.mono (q2_ran d h (by omega) 20) ?_⟩⟩
    rintro z M1 ⟨rfl, h2, h3⟩
    refine ⟨rfl, h2.1.1, Call.mono (q2_ran d h2 (by simp; omega) 10) ?_⟩
    rintro z M2 ⟨rfl, h4, h5⟩
    refine ⟨rfl, h4.1.1, Call.mono (q2_isGrown d h4) ?_⟩
    rintro z M3 ⟨rfl, hr⟩
    rw [sRead, if_pos hg]
    rcases hr with ⟨-, rfl⟩ | ⟨hg2, rfl⟩
    · exact ⟨1, rfl, fun c => absurd c (by decide), fun _ => ⟨rfl, by simpa using h4, h3.tr h5 (fun _ h => h)⟩⟩
    · rw [hg] at hg2; cases hg2
  · refine ⟨0, rfl, fun _ => ⟨h.1.1, Call.mono (q2_ran d h (by omega) 10) ?_⟩, fun c => absurd rfl c⟩
    rintro z M2 ⟨rfl, h4, h5⟩
    refine ⟨rfl, h4.1.1, Call.mono (q2_isGrown d h4) ?_⟩
    rintro z M3 ⟨rfl, hr⟩
    rw [sRead, if_neg (by rw [hg]; decide)]
    rcases hr with ⟨hg2, rfl⟩ | ⟨-, rfl⟩
    · rw [hg] at hg2; cases hg2
    · exact ⟨0, rfl, fun _ => ⟨rfl, h4, h5⟩, fun c => absurd rfl c⟩
/-- the reads that a method makes of the row's kind -/
theorem RB.kdR (h : RB F M o r kd wi l) : x_r M o 2 = some (o + 1) ∧ (x_h M (o + 1)).1 = 1 ∧ vp_in (nI r) (x_h M (o + 1)).2 ∧ x_i M (o + 1) (nI r).toNatClampNeg = kd := by
  have ha := h.1.a 2 rfl (by decide)
  have hr := h.2.2.2.2.2
  exact ⟨ha.1, ha.2.1, by rw [ha.2.2]; exact vp_in_nI hr (by decide), by rw [nI_clamp (by omega)]; exact h.2.2.2.1⟩
theorem RB.wiR (h : RB F M o r kd wi l) : x_r M o 3 = some (o + 2) ∧ (x_h M (o + 2)).1 = 1 ∧ vp_in (nI r) (x_h M (o + 2)).2 ∧ x_i M (o + 2) (nI r).toNatClampNeg = wi := by
  have ha := h.1.a 3 rfl (by decide)
  have hr := h.2.2.2.2.2
  exact ⟨ha.1, ha.2.1, by rw [ha.2.2]; exact vp_in_nI hr (by decide), by rw [nI_clamp (by omega)]; exact h.2.2.2.2.1⟩
theorem q2_step32 (d : Nat) (h : RB F M o r kd wi l) (hl : l.length < 46) (x : Int32) : LX12_step0_32 G (d + 2) 0 0 o (nI r) x M (fun z M' => z = some (.int (if kd = 2 then (sRead kd (nI r) x).1 * 3 + 5 else if kd = 4 then (sRead kd (nI r) (x - 1)).1 * 3 else (sRead kd (nI r) x).1 * 3)) ∧ RB F M' o r kd wi (l ++ (11 :: (sRead kd (nI r) (if kd = 4 then x - 1 else x)).2)) ∧ FrI M M' [o, o + 19]) := by
  refine vX12_step0_32 o (nI r) x ⟨h.1.1, Call.mono (q2_ran (d + 1) h (by omega) 11) ?_⟩
  rintro z M1 ⟨rfl, h2, h3⟩
  obtain ⟨k1, k2, k3, k4⟩ := h2.kdR
  refine ⟨rfl, h2.1.1, _, k1, k2, k3, ?_⟩
  rw [k4]
  refine ⟨fun c => Call.mono (q2_read0 d h2 (by simp; omega) x) ?_, fun c => Call.mono (q2_read0 d h2 (by simp; omega) (x - 1)) ?_⟩
  · rintro z M2 ⟨rfl, h4, h5⟩
    obtain ⟨e1, e2, e3, e4⟩ := h4.kdR
    refine ⟨_, rfl, h4.1.1, _, e1, e2, e3, ?_⟩
    rw [e4]
    rw [if_neg c, if_neg c]
    refine ⟨fun c2 => ⟨by rw [if_neg c2], by simpa using h4, h3.tr h5 (fun _ h => h)⟩, fun c2 => ⟨by rw [if_pos c2], by simpa using h4, h3.tr h5 (fun _ h => h)⟩⟩
  · rintro z M2 ⟨rfl, h4, h5⟩
    obtain ⟨e1, e2, e3, e4⟩ := h4.kdR
    refine ⟨_, rfl, h4.1.1, _, e1, e2, e3, ?_⟩
    rw [e4]
    rw [if_pos c, if_pos c]
    have n2 : ¬ kd = 2 := by rw [c]; decide
    exact ⟨fun c2 => ⟨by rw [if_neg c2], by simpa using h4, h3.tr h5 (fun _ h => h)⟩, fun c2 => absurd c2 n2⟩
theorem q2_step0 (d : Nat) (h : RB F M o r kd wi l) (hl : l.length < 45) (x : Int32) : Call G (d + 3) 0 0 mX12_step0 [.ref o, .int (nI r), .int x] M (fun z M' => z = some (.int (sStep kd (nI r) x).1) ∧ RB F M' o r kd wi (l ++ (sStep kd (nI r) x).2) ∧ FrI M M' [o, o + 19]) := by
  obtain ⟨k1, k2, k3, k4⟩ := h.kdR
  refine eX12_step0 o (nI r) x ⟨h.1.1, _, k1, k2, k3, ?_⟩
  rw [k4]
  refine ⟨fun c => ⟨fun c2 => Wk.mono (q2_step32 d h (by omega) x) ?_, fun c2 => Call.mono (q2_ran (d + 1) h (by omega) 50) ?_⟩, fun c => Call.mono (q2_ran (d + 1) h (by omega) 30) ?_⟩
  · rintro z M2 ⟨rfl, h4, h5⟩
    rw [if_neg c, if_neg c2]
    rw [if_neg c2] at h4
    rw [sStep, if_neg c, if_neg c2]
    exact ⟨rfl, h4, h5⟩
  · rintro z M1 ⟨rfl, h2, h3⟩
    refine ⟨rfl, Wk.mono (q2_step32 d h2 (by simp; omega) x) ?_⟩
    rintro z M2 ⟨rfl, h4, h5⟩
    rw [if_neg c, if_pos c2]
    rw [if_pos c2] at h4
    rw [sStep, if_neg c, if_pos c2]
    exact ⟨rfl, by simpa using h4, h3.tr h5 (fun _ h => h)⟩
  · rintro z M1 ⟨rfl, h2, h3⟩
    obtain ⟨e1, e2, e3, e4⟩ := h2.kdR
    refine ⟨rfl, h2.1.1, _, e1, e2, e3, ?_⟩
    rw [e4]
    have n4 : ¬ kd = 4 := by rw [c]; decide
    refine ⟨fun _ => Wk.mono (q2_step32 d h2 (by simp; omega) x) ?_, fun c2 => absurd c2 n4⟩
    rintro z M2 ⟨rfl, h4, h5⟩
    rw [if_pos c]
    rw [if_neg n4] at h4
    rw [sStep, if_pos c]
    exact ⟨rfl, by simpa using h4, h3.tr h5 (fun _ h => h)⟩
theorem q2_join32 (d : Nat) (h : RB F M o r kd wi l) (hl : l.length < 50) (x : Int32) : LX12_join0_32 G (d + 1) 0 0 o (nI r) x M (fun z M' => z = some (.int (sJoin kd (nI r) wi x).1) ∧ RB F M' o r kd wi (l ++ [12]) ∧ FrI M M' [o, o + 19]) := by
  refine vX12_join0_32 o (nI r) x ⟨h.1.1, Call.mono (q2_ran d h (by omega) 12) ?_⟩
  rintro z M1 ⟨rfl, h2, h3⟩
  obtain ⟨k1, k2, k3, k4⟩ := h2.kdR
  obtain ⟨e1, e2, e3, e4⟩ := h2.wiR
  refine ⟨rfl, h2.1.1, _, e1, e2, e3, _, k1, k2, k3, ?_⟩
  rw [k4, e4]
  refine ⟨fun c => ⟨fun c2 => ?_, fun c2 => ?_⟩, fun c => ?_⟩
  · rw [sJoin, if_neg c, if_neg c2]; exact ⟨rfl, h2, h3⟩
  · rw [sJoin, if_neg c, if_pos c2]; exact ⟨rfl, h2, h3⟩
  · rw [sJoin, if_pos c]; exact ⟨rfl, h2, h3⟩
theorem q2_join0 (d : Nat) (h : RB F M o r kd wi l) (hl : l.length < 48) (x : Int32) : Call G (d + 2) 0 0 mX12_join0 [.ref o, .int (nI r), .int x] M (fun z M' => z = some (.int (sJoin kd (nI r) wi x).1) ∧ RB F M' o r kd wi (l ++ (sJoin kd (nI r) wi x).2) ∧ FrI M M' [o, o + 19]) := by
  obtain ⟨k1, k2, k3, k4⟩ := h.kdR
  refine eX12_join0 o (nI r) x ⟨h.1.1, _, k1, k2, k3, ?_⟩
  rw [k4]
  refine ⟨fun c => ⟨fun c2 => Wk.mono (q2_join32 d h (by omega) x) ?_, fun c2 => Call.mono (q2_ran d h (by omega) 40) ?_⟩, fun c => Call.mono (q2_ran d h (by omega) 31) ?_⟩
  · rintro z M2 ⟨rfl, h4, h5⟩
    refine ⟨rfl, ?_, h5⟩
    rw [sJoin, if_neg c, if_neg c2]; exact h4
  · rintro z M1 ⟨rfl, h2, h3⟩
    refine ⟨rfl, Wk.mono (q2_join32 d h2 (by simp; omega) x) ?_⟩
    rintro z M2 ⟨rfl, h4, h5⟩
    refine ⟨rfl, ?_, h3.tr h5 (fun _ h => h)⟩
    rw [sJoin, if_neg c, if_pos c2]; simpa using h4
  · rintro z M1 ⟨rfl, h2, h3⟩
    obtain ⟨e1, e2, e3, e4⟩ := h2.kdR
    refine ⟨rfl, h2.1.1, _, e1, e2, e3, ?_⟩
    rw [e4]
    have n4 : ¬ kd = 3 := by rw [c]; decide
    refine ⟨fun _ => Wk.mono (q2_join32 d h2 (by simp; omega) x) ?_, fun c2 => absurd c2 n4⟩
    rintro z M2 ⟨rfl, h4, h5⟩
    refine ⟨rfl, ?_, h3.tr h5 (fun _ h => h)⟩
    rw [sJoin, if_pos c]; simpa using h4
theorem q2_machineTell (d : Nat) (h : RB F M o r kd wi l) (hl : l.length < 30) (x : Int32) : Call G (d + 4) 0 0 mX12_machineTell [.ref o, .int (nI r), .int x] M (fun z M' => z = some (.int (sPlainTell kd (nI r) wi x).1) ∧ RB F M' o r kd wi (l ++ (sPlainTell kd (nI r) wi x).2) ∧ FrI M M' [o, o + 19]) := by
  refine eX12_machineTell o (nI r) x ⟨h.1.1, Call.mono (q2_ran (d + 2) h (by omega) 13) ?_⟩
  rintro z M1 ⟨rfl, h2, h3⟩
  refine ⟨rfl, h2.1.1, Call.mono (q2_step0 d h2 (by simp; omega) x) ?_⟩
  rintro z M2 ⟨rfl, h4, h5⟩
  have := sStep_len kd (nI r) x
  refine ⟨_, rfl, h4.1.1, Call.mono (q2_join0 (d + 1) h4 (by simp; omega) x) ?_⟩
  rintro z M3 ⟨rfl, h6, h7⟩
  exact ⟨_, rfl, rfl, by simpa [sPlainTell] using h6, (h3.tr h5 (fun _ h => h)).tr h7 (fun _ h => h)⟩
theorem q2_tell0 (d : Nat) (h : RB F M o r kd wi l) (hl : l.length < 20) (x : Int32) : Call G (d + 5) 0 0 mX12_tell0 [.ref o, .int (nI r), .int x] M (fun z M' => z = some (.int (sTell kd (nI r) wi x).1) ∧ RB F M' o r kd wi (l ++ (sTell kd (nI r) wi x).2) ∧ FrI M M' [o, o + 19]) := by
  refine eX12_tell0 o (nI r) x ⟨h.1.1, Call.mono (q2_isGrown (d + 3) h) ?_⟩
  rintro z M' ⟨rfl, hr⟩
  rcases hr with ⟨hg, rfl⟩ | ⟨hg, rfl⟩
  · refine ⟨1, rfl, fun c => absurd c (by decide), fun _ => ⟨h.1.1, Call.mono (q2_ran (d + 3) h (by omega) 21) ?_⟩⟩
    rintro z M1 ⟨rfl, h2, h3⟩
    refine ⟨rfl, h2.1.1, Call.mono (q2_machineTell d h2 (by simp; omega) (x + 1)) ?_⟩
    rintro z M2 ⟨rfl, h4, h5⟩
    rw [sTell, if_pos hg]
    exact ⟨_, rfl, rfl, by simpa using h4, h3.tr h5 (fun _ h => h)⟩
  · obtain ⟨e1, e2, e3, e4⟩ := h.kdR
    refine ⟨0, rfl, fun _ => ⟨h.1.1, _, e1, e2, e3, ?_⟩, fun c => absurd rfl c⟩
    rw [e4]
    refine ⟨fun c => Call.mono (q2_machineTell d h (by omega) x) ?_, fun c => Call.mono (q2_ran (d + 3) h (by omega) 51) ?_⟩
    · rintro z M2 ⟨rfl, h4, h5⟩
      rw [sTell, if_neg (by rw [hg]; decide), if_neg c]
      exact ⟨_, rfl, rfl, h4, h5⟩
    · rintro z M1 ⟨rfl, h2, h3⟩
      refine ⟨rfl, h2.1.1, Call.mono (q2_join0 (d + 2) h2 (by simp; omega) x) ?_⟩
      rintro z M2 ⟨rfl, h4, h5⟩
      have := sJoin_len kd (nI r) wi x
      refine ⟨_, rfl, h4.1.1, Call.mono (q2_machineTell d h4 (by simp; omega) x) ?_⟩
      rintro z M3 ⟨rfl, h6, h7⟩
      rw [sTell, if_neg (by rw [hg]; decide), if_pos c]
      exact ⟨_, rfl, rfl, by simpa using h6, (h3.tr h5 (fun _ h => h)).tr h7 (fun _ h => h)⟩
end RefActs2
