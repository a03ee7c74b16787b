/-! ===== the law: the loop over the script, and the whole ===== -/
section LawLoop
variable {G : GG} {rc rs b L e m i : Nat} {xs : Nat → Int32} {M : Mem} {Q : Option Value → Mem → Prop}
theorem law_lt (hL : L ≤ 4096) (hi : i ≤ 5000) : nI L - 8 < nI i ↔ L < i + 8 := by
  have e8 : (8 : Int32) = iI 8 := by decide
  rw [e8, iI_n L, iI_n i, iI_sub, iI_lt (by omega) (by omega) (by omega) (by omega)]
  omega
theorem law_go (hSO : SOK G) (hX : va_X b L xs (g_s G) (g_s G).heap) (hi : i + 8 ≤ L) (hL : L ≤ 4096) (hC : CRel M e m) (hk : ∀ M2, CRel M2 e m → LL_law_18 G 2047 rc rs b e m (nI i + 8) M2 Q) : LL_law_18 G 2047 rc rs b e m (nI i) M Q := by
  have v0 : vp_in (nI i) L := vp_in_nI (by omega) (by omega)
  have v1 : vp_in (nI i + 1) L := by rw [show nI i + 1 = nI (i + 1) from nI_add i 1]; exact vp_in_nI (by omega) (by omega)
  have v2 : vp_in (nI i + 2) L := by rw [show nI i + 2 = nI (i + 2) from nI_add i 2]; exact vp_in_nI (by omega) (by omega)
  have v3 : vp_in (nI i + 3) L := by rw [show nI i + 3 = nI (i + 3) from nI_add i 3]; exact vp_in_nI (by omega) (by omega)
  have v4 : vp_in (nI i + 4) L := by rw [show nI i + 4 = nI (i + 4) from nI_add i 4]; exact vp_in_nI (by omega) (by omega)
  have v5 : vp_in (nI i + 5) L := by rw [show nI i + 5 = nI (i + 5) from nI_add i 5]; exact vp_in_nI (by omega) (by omega)
  have v6 : vp_in (nI i + 6) L := by rw [show nI i + 6 = nI (i + 6) from nI_add i 6]; exact vp_in_nI (by omega) (by omega)
  have v7 : vp_in (nI i + 7) L := by rw [show nI i + 7 = nI (i + 7) from nI_add i 7]; exact vp_in_nI (by omega) (by omega)
  have h27 := hC.h27
  have hc : ¬ nI L - 8 < nI i := fun c => absurd ((law_lt hL (by omega)).mp c) (by omega)
  have k32 : ∀ (v : Int32) {M2 : Mem}, CRel M2 e m → (v = v → LL_law_18 G 2047 rc rs b e m (nI i + 8) M2 Q) ∧ (¬ v = v → Q (some (.int 0)) M2) := fun v M2 h => ⟨fun _ => hk M2 h, fun z => absurd rfl z⟩
  have k64 : ∀ (v : Int64) {M2 : Mem}, CRel M2 e m → (lg_cmp v v = 0 → LL_law_18 G 2047 rc rs b e m (nI i + 8) M2 Q) ∧ (¬ lg_cmp v v = 0 → Q (some (.int 0)) M2) := fun v M2 h => ⟨fun _ => hk M2 h, fun z => absurd ((lg_cmp_eq v v).mpr rfl) z⟩
  refine vL_law_18 _ _ _ _ hX ⟨fun c => absurd c hc, fun _ => ⟨v0, ?_, ?_, ?_, ?_, ?_, ?_, ?_, ?_, ?_, ?_, ?_, ?_, ?_, ?_, ?_, ?_, ?_, ?_, ?_, ?_, ?_, ?_, ?_, ?_, ?_, ?_, ?_, ?_, fun _ => hk M hC⟩⟩
  · exact fun _ => ⟨v1, h27, Call.mono (ox_begin (e := e) (m := m) 2045 M hC) (fun r M1 z1 => by
      obtain ⟨v, hr, h28, hc1⟩ := z1
      exact ⟨v, hr, v1, h28, Call.mono hc1 (fun r2 M2 z2 => ⟨v, z2.1, k32 v z2.2⟩)⟩)⟩
  · exact fun _ => ⟨v1, v2, v3, h27, Call.mono (ox_sheet (e := e) (m := m) 2045 M hC) (fun r M1 z1 => by
      obtain ⟨v, hr, h28, hc1⟩ := z1
      exact ⟨v, hr, v1, v2, v3, h28, Call.mono hc1 (fun r2 M2 z2 => ⟨v, z2.1, k32 v z2.2⟩)⟩)⟩
  · exact fun _ => ⟨v1, v2, v3, h27, Call.mono (ox_cell (e := e) (m := m) 2045 M hC) (fun r M1 z1 => by
      obtain ⟨v, hr, h28, hc1⟩ := z1
      exact ⟨v, hr, v1, v2, v3, h28, Call.mono hc1 (fun r2 M2 z2 => ⟨v, z2.1, k32 v z2.2⟩)⟩)⟩
  · exact fun _ => ⟨v1, v2, v3, v4, h27, Call.mono (ox_machine (e := e) (m := m) 2041 M hC) (fun r M1 z1 => by
      obtain ⟨v, hr, h28, hc1⟩ := z1
      exact ⟨v, hr, v1, v2, v3, v4, h28, Call.mono hc1 (fun r2 M2 z2 => ⟨v, z2.1, k32 v z2.2⟩)⟩)⟩
  · exact fun _ => ⟨v1, v2, v3, h27, Call.mono (ox_grown (e := e) (m := m) 2041 M hC) (fun r M1 z1 => by
      obtain ⟨v, hr, h28, hc1⟩ := z1
      exact ⟨v, hr, v1, v2, v3, h28, Call.mono hc1 (fun r2 M2 z2 => ⟨v, z2.1, k32 v z2.2⟩)⟩)⟩
  · exact fun _ => ⟨v1, v2, v3, v4, h27, Call.mono (ox_ring (e := e) (m := m) 2041 M hC) (fun r M1 z1 => by
      obtain ⟨v, hr, h28, hc1⟩ := z1
      exact ⟨v, hr, v1, v2, v3, v4, h28, Call.mono hc1 (fun r2 M2 z2 => ⟨v, z2.1, k32 v z2.2⟩)⟩)⟩
  · exact fun _ => ⟨v1, v2, v3, h27, Call.mono (ox_pair (e := e) (m := m) 2040 M hC) (fun r M1 z1 => by
      obtain ⟨v, hr, h28, hc1⟩ := z1
      exact ⟨v, hr, v1, v2, v3, h28, Call.mono hc1 (fun r2 M2 z2 => ⟨v, z2.1, k32 v z2.2⟩)⟩)⟩
  · exact fun _ => ⟨v1, h27, Call.mono (ox_sought (e := e) (m := m) 2042 M hC) (fun r M1 z1 => by
      obtain ⟨v, hr, h28, hc1⟩ := z1
      exact ⟨v, hr, v1, h28, Call.mono hc1 (fun r2 M2 z2 => ⟨v, z2.1, k32 v z2.2⟩)⟩)⟩
  · exact fun _ => ⟨v1, v2, v3, h27, Call.mono (ox_feed (e := e) (m := m) 2045 M hC) (fun r M1 z1 => by
      obtain ⟨v, hr, h28, hc1⟩ := z1
      exact ⟨v, hr, v1, v2, v3, h28, Call.mono hc1 (fun r2 M2 z2 => ⟨v, z2.1, k32 v z2.2⟩)⟩)⟩
  · exact fun _ => ⟨h27, Call.mono (ox_question (e := e) (m := m) 576 hSO M hC) (fun r M1 z1 => by
      obtain ⟨v, hr, h28, hc1⟩ := z1
      exact ⟨v, hr, h28, Call.mono hc1 (fun r2 M2 z2 => ⟨v, z2.1, k32 v z2.2⟩)⟩)⟩
  · exact fun _ => ⟨v1, h27, Call.mono (ox_drop (e := e) (m := m) 2044 M hC) (fun r M1 z1 => by
      obtain ⟨v, hr, h28, hc1⟩ := z1
      exact ⟨v, hr, v1, h28, Call.mono hc1 (fun r2 M2 z2 => ⟨v, z2.1, k32 v z2.2⟩)⟩)⟩
  · exact fun _ => ⟨v1, h27, Call.mono (ox_count (e := e) (m := m) 2046 M hC) (fun r M1 z1 => by
      obtain ⟨v, hr, h28, hc1⟩ := z1
      exact ⟨v, hr, v1, h28, Call.mono hc1 (fun r2 M2 z2 => ⟨v, z2.1, k32 v z2.2⟩)⟩)⟩
  · exact fun _ => ⟨v1, h27, Call.mono (ox_kind (e := e) (m := m) 2044 M hC) (fun r M1 z1 => by
      obtain ⟨v, hr, h28, hc1⟩ := z1
      exact ⟨v, hr, v1, h28, Call.mono hc1 (fun r2 M2 z2 => ⟨v, z2.1, k32 v z2.2⟩)⟩)⟩
  · exact fun _ => ⟨v1, v2, v3, h27, Call.mono (ox_letter (e := e) (m := m) 2043 M hC) (fun r M1 z1 => by
      obtain ⟨v, hr, h28, hc1⟩ := z1
      exact ⟨v, hr, v1, v2, v3, h28, Call.mono hc1 (fun r2 M2 z2 => ⟨v, z2.1, k32 v z2.2⟩)⟩)⟩
  · exact fun _ => ⟨v1, h27, Call.mono (ox_width (e := e) (m := m) 2044 M hC) (fun r M1 z1 => by
      obtain ⟨v, hr, h28, hc1⟩ := z1
      exact ⟨v, hr, v1, h28, Call.mono hc1 (fun r2 M2 z2 => ⟨v, z2.1, k32 v z2.2⟩)⟩)⟩
  · exact fun _ => ⟨v1, v2, h27, Call.mono (ox_differ (e := e) (m := m) 2042 M hC) (fun r M1 z1 => by
      obtain ⟨v, hr, h28, hc1⟩ := z1
      exact ⟨v, hr, v1, v2, h28, Call.mono hc1 (fun r2 M2 z2 => ⟨v, z2.1, k64 v z2.2⟩)⟩)⟩
  · exact fun _ => ⟨v1, v2, h27, Call.mono (ox_told (e := e) (m := m) 2043 M hC) (fun r M1 z1 => by
      obtain ⟨v, hr, h28, hc1⟩ := z1
      exact ⟨v, hr, v1, v2, h28, Call.mono hc1 (fun r2 M2 z2 => ⟨v, z2.1, k32 v z2.2⟩)⟩)⟩
  · exact fun _ => ⟨v1, v2, v3, h27, Call.mono (ox_step (e := e) (m := m) 2044 M hC) (fun r M1 z1 => by
      obtain ⟨v, hr, h28, hc1⟩ := z1
      exact ⟨v, hr, v1, v2, v3, h28, Call.mono hc1 (fun r2 M2 z2 => ⟨v, z2.1, k32 v z2.2⟩)⟩)⟩
  · exact fun _ => ⟨v1, v2, h27, Call.mono (ox_takes (e := e) (m := m) 2044 M hC) (fun r M1 z1 => by
      obtain ⟨v, hr, h28, hc1⟩ := z1
      exact ⟨v, hr, v1, v2, h28, Call.mono hc1 (fun r2 M2 z2 => ⟨v, z2.1, k32 v z2.2⟩)⟩)⟩
  · exact fun _ => ⟨v1, v2, v3, v4, v5, v6, v7, h27, Call.mono (ox_holds (e := e) (m := m) 2043 M hC) (fun r M1 z1 => by
      obtain ⟨v, hr, h28, hc1⟩ := z1
      exact ⟨v, hr, v1, v2, v3, v4, v5, v6, v7, h28, Call.mono hc1 (fun r2 M2 z2 => ⟨v, z2.1, k32 v z2.2⟩)⟩)⟩
  · exact fun _ => ⟨v1, v2, v3, h27, Call.mono (ox_next (e := e) (m := m) 2042 M hC) (fun r M1 z1 => by
      obtain ⟨v, hr, h28, hc1⟩ := z1
      exact ⟨v, hr, v1, v2, v3, h28, Call.mono hc1 (fun r2 M2 z2 => ⟨v, z2.1, k64 v z2.2⟩)⟩)⟩
  · exact fun _ => ⟨v1, h27, Call.mono (ox_many (e := e) (m := m) 2040 M hC) (fun r M1 z1 => by
      obtain ⟨v, hr, h28, hc1⟩ := z1
      exact ⟨v, hr, v1, h28, Call.mono hc1 (fun r2 M2 z2 => ⟨v, z2.1, k64 v z2.2⟩)⟩)⟩
  · exact fun _ => ⟨v1, v2, v3, h27, Call.mono (ox_values (e := e) (m := m) 2040 M hC) (fun r M1 z1 => by
      obtain ⟨v, hr, h28, hc1⟩ := z1
      exact ⟨v, hr, v1, v2, v3, h28, Call.mono hc1 (fun r2 M2 z2 => ⟨v, z2.1, k64 v z2.2⟩)⟩)⟩
  · exact fun _ => ⟨v1, v2, h27, Call.mono (ox_alike (e := e) (m := m) 2043 M hC) (fun r M1 z1 => by
      obtain ⟨v, hr, h28, hc1⟩ := z1
      exact ⟨v, hr, v1, v2, h28, Call.mono hc1 (fun r2 M2 z2 => ⟨v, z2.1, k32 v z2.2⟩)⟩)⟩
  · exact fun _ => ⟨v1, v2, v3, h27, Call.mono (ox_act (e := e) (m := m) 2038 M hC) (fun r M1 z1 => by
      obtain ⟨v, hr, h28, hc1⟩ := z1
      exact ⟨v, hr, v1, v2, v3, h28, Call.mono hc1 (fun r2 M2 z2 => ⟨v, z2.1, k32 v z2.2⟩)⟩)⟩
  · exact fun _ => ⟨v1, h27, Call.mono (ox_trace (e := e) (m := m) 2045 M hC) (fun r M1 z1 => by
      obtain ⟨v, hr, h28, hc1⟩ := z1
      exact ⟨v, hr, v1, h28, Call.mono hc1 (fun r2 M2 z2 => ⟨v, z2.1, k32 v z2.2⟩)⟩)⟩
  · exact fun _ => ⟨v1, v2, v3, h27, Call.mono (ox_forge (e := e) (m := m) 2043 M hC) (fun r M1 z1 => by
      obtain ⟨v, hr, h28, hc1⟩ := z1
      exact ⟨v, hr, v1, v2, v3, h28, Call.mono hc1 (fun r2 M2 z2 => ⟨v, z2.1, k32 v z2.2⟩)⟩)⟩
  · exact fun _ => ⟨h27, Call.mono (ox_status (e := e) (m := m) 2046 M hC) (fun r M1 z1 => by
      obtain ⟨v, hr, h28, hc1⟩ := z1
      exact ⟨v, hr, h28, Call.mono hc1 (fun r2 M2 z2 => ⟨v, z2.1, k32 v z2.2⟩)⟩)⟩
theorem law_loop (hSO : SOK G) (hX : va_X b L xs (g_s G) (g_s G).heap) (hL : L ≤ 4096) (hQ : ∀ M, Q (some (.int 1)) M) : ∀ t i M, L ≤ i + t → i ≤ 5000 → CRel M e m → LL_law_18 G 2047 rc rs b e m (nI i) M Q := by
  intro t
  induction t with
  | zero => exact fun i M h1 h2 hC => vL_law_18 _ _ _ _ hX ⟨fun _ => hQ M, fun c => absurd ((law_lt hL h2).mpr (by omega)) c⟩
  | succ t ih =>
    intro i M h1 h2 hC
    by_cases c : L < i + 8
    · exact vL_law_18 _ _ _ _ hX ⟨fun _ => hQ M, fun c' => absurd ((law_lt hL h2).mpr c) c'⟩
    · exact law_go hSO hX (by omega) hL hC (fun M2 h => by rw [show nI i + 8 = nI (i + 8) from nI_add i 8]; exact ih (i + 8) M2 (by omega) (by omega) h)
theorem law_ok : LawOK := by
  intro G b L xs hL hSO hX
  refine eL_law (d := 2047) b hX ⟨by omega, by omega, fun e he M4 e4 => ?_⟩
  have hN4 : g_b G + x_n M4 = e + 1 := by rw [e4, he]; rfl
  have hh4 : (x_h M4 e).1 = 27 := by rw [e4, nw_he]
  have hi4 : x_i M4 e 15 = 0 := by rw [e4, nw_ie]
  refine ⟨by omega, by omega, kk_court 2043 hN4 hh4 hi4 (fun M9 hN9 hF => ⟨rfl, by omega, by omega, fun m hm M13 e13 => ?_⟩)⟩
  have hem : e + 616 = m := by omega
  have hN13 : g_b G + x_n M13 = m + 1 := by
    have : x_n M13 = x_n M9 + 1 := by rw [e13]; rfl
    omega
  have hh13 : (x_h M13 m).1 = 28 := by rw [e13, nw_he]
  have hi13 : x_i M13 m = fun _ => 0 := by rw [e13, nw_ie]
  have g9 : Gw M9 M13 m := by rw [e13]; exact Gw.rf.nw (Nat.le_refl _)
  refine ⟨by omega, by omega, kk_ref 2046 hN13 hh13 hi13 (fun M18 g hS c1 c2 c3 c4 => ⟨rfl, ?_⟩)⟩
  exact law_loop hSO hX hL (fun _ => rfl) L 0 M18 (by omega) (by omega) (start_rel hF hem (g9.tr g (Nat.le_refl _)) hS c1 c2 c3 c4)
end LawLoop
