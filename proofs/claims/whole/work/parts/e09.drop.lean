/-! ===== both alike: drop ===== -/
section OpDrop
variable {G : GG} {M M' : Mem} {e m b : Nat} {S S' : Sg} {R K : Nat → Mc} {Q : Option Value → Mem → Prop}
def freeR (S : Sg) : Prop := 0 < y_rc S ∧ ∀ k, k < y_qc S → qd_f (y_q S k) = 0 → bt (qd_r (y_q S k)) (y_rc S - 1) = 0
def freeQ (S : Sg) : Prop := 0 < y_qc S ∧ ∀ i, i < y_rc S → y_kd S i = 4 → y_oq S i ≠ nI (y_qc S - 1)
theorem nI_prd0 {n : Nat} (h : 0 < n) : nI n - 1 = nI (n - 1) := by
  rw [iI_sub1, iI_n]
  congr 1
  omega
theorem nI_pneg {n : Nat} (hn : n < 100) : (0 : Int32) ≤ nI n - 1 ↔ 0 < n := by
  rw [iI_sub1, show (0 : Int32) = iI 0 from rfl, iI_le (by omega) (by omega) (by omega) (by omega)]
  omega
theorem w_dropRow (d : Nat) (hS : CoS M e) (hW : SgW S) (hB : CoB M e S) (hQu : CoQ M e S K) (hQ0 : ¬ freeR S → Q (some (.int (-1))) (x_si M e 15 3)) (hQ1 : freeR S → Q (some (.int (nI (y_rc S - 1)))) (x_si (x_si M e 12 (nI (y_rc S - 1))) e 15 0)) : Call G (d + 2) 0 0 mX11_dropRow [.ref e] M Q := by
  obtain ⟨a1, a2, a3, a4, a5, a6, a7, a8, a9, a10, a11, a12, b1, b2, -⟩ := hS
  obtain ⟨f11, f12, f13, f14, f15⟩ := hB
  have hrc := hW.2.2.2.2.1
  have hqc := hW.2.2.2.2.2.2.1
  refine eX11_dropRow e ⟨a1, fun c => ?_, fun c => ?_⟩
  rotate_left
  · rw [f12, nI_pneg (by omega)] at c
    exact w_refuse d a1 ⟨_, rfl, hQ0 (fun h => c h.1)⟩
  rw [f12, nI_pneg (by omega)] at c
  rw [f12, nI_prd0 c]
  have loop : ∀ r k, r + k = y_qc S → (∀ j, j < k → qd_f (y_q S j) = 0 → bt (qd_r (y_q S j)) (y_rc S - 1) = 0) → LX11_dropRow_19 G (d + 1) 0 0 e (nI (y_rc S - 1)) (nI k) M Q := by
    intro r
    induction r with
    | zero =>
      intro k hk h
      refine vX11_dropRow_19 _ _ _ ⟨a1, fun _ => ?_, fun q => absurd ?_ q⟩
      · rintro M3 rfl
        refine w_done d ?_ ?_
        · exact a1
        exact ⟨_, rfl, hQ1 ⟨c, fun k' hk' => h k' (by omega)⟩⟩
      · rw [f13, nI_leI (by omega) (by omega)]
        omega
    | succ r ih =>
      intro k hk h
      have hkq : k < y_qc S := by omega
      obtain ⟨hr, s1, s2, s3⟩ := b2.2 k (by omega)
      obtain ⟨h1, h2, h3, h4, h5⟩ := hQu k hkq
      obtain ⟨w1, w2, w3, w4⟩ := hW.2.2.2.2.2.2.2.1 k hkq
      refine vX11_dropRow_19 _ _ _ ⟨a1, fun q => absurd q ?_, fun _ => ⟨e + 2, a3, by rw [b2.1]; exact ⟨by decide, by decide⟩, by rw [b2.1]; exact vp_in_nI (show k < 10 by omega) (by omega), e + 540 + 8 * k, by rw [nI_clamp (by omega)]; exact hr, s1, fun z => ?_, fun z => ⟨e + 540 + 8 * k, by rw [nI_clamp (by omega)]; exact hr, s1, ?_⟩⟩⟩
      · rw [f13, nI_leI (by omega) (by omega)]
        omega
      · rw [nI_1]
        refine ih (k + 1) (by omega) (fun j hj hf => ?_)
        by_cases q : j = k
        · subst q
          exact absurd ((ask_c hW hQu hkq).1.mpr hf) z
        · exact h j (by omega) hf
      · have z' := (ask_c hW hQu hkq).1.mp z
        have hr2 := (w4 z').2.2.2
        rw [(h4 z').2.2, sb (by omega) (by omega), nI_1]
        refine ⟨fun y => ?_, fun y => w_refuse d a1 ⟨_, rfl, hQ0 (fun hf => y (sb0.mpr (hf.2 k hkq z')))⟩⟩
        refine ih (k + 1) (by omega) (fun j hj hf => ?_)
        by_cases q : j = k
        · subst q
          exact sb0.mp y
        · exact h j (by omega) hf
  exact loop (y_qc S) 0 (by omega) (fun j hj => absurd hj (Nat.not_lt_zero j))
theorem w_dropQuestion (d : Nat) (hS : CoS M e) (hW : SgW S) (hB : CoB M e S) (hRo : CoR M e S R) (hQ0 : ¬ freeQ S → Q (some (.int (-1))) (x_si M e 15 3)) (hQ1 : freeQ S → Q (some (.int (nI (y_qc S - 1)))) (x_si (x_si M e 13 (nI (y_qc S - 1))) e 15 0)) : Call G (d + 2) 0 0 mX11_dropQuestion [.ref e] M Q := by
  obtain ⟨a1, a2, a3, a4, a5, a6, a7, a8, a9, a10, a11, a12, b1, b2, -⟩ := hS
  obtain ⟨f11, f12, f13, f14, f15⟩ := hB
  have hrc := hW.2.2.2.2.1
  have hqc := hW.2.2.2.2.2.2.1
  refine eX11_dropQuestion e ⟨a1, fun c => ?_, fun c => ?_⟩
  rotate_left
  · rw [f13, nI_pneg (by omega)] at c
    exact w_refuse d a1 ⟨_, rfl, hQ0 (fun h => c h.1)⟩
  rw [f13, nI_pneg (by omega)] at c
  rw [f13, nI_prd0 c]
  have loop : ∀ r k, r + k = y_rc S → (∀ j, j < k → y_kd S j = 4 → y_oq S j ≠ nI (y_qc S - 1)) → LX11_dropQuestion_19 G (d + 1) 0 0 e (nI (y_qc S - 1)) (nI k) M Q := by
    intro r
    induction r with
    | zero =>
      intro k hk h
      refine vX11_dropQuestion_19 _ _ _ ⟨a1, fun _ => ?_, fun q => absurd ?_ q⟩
      · rintro M3 rfl
        refine w_done d ?_ ?_
        · exact a1
        exact ⟨_, rfl, hQ1 ⟨c, fun k' hk' => h k' (by omega)⟩⟩
      · rw [f12, nI_leI (by omega) (by omega)]
        omega
    | succ r ih =>
      intro k hk h
      have hkq : k < y_rc S := by omega
      obtain ⟨hr, s1, s2, s3⟩ := b1.2 k (by omega)
      obtain ⟨h1, h2, h3⟩ := hRo k hkq
      have hkd := hW.2.2.2.2.2.1 k hkq
      refine vX11_dropQuestion_19 _ _ _ ⟨a1, fun q => absurd q ?_, fun _ => ⟨e + 1, a2, by rw [b1.1]; exact ⟨by decide, by decide⟩, by rw [b1.1]; exact vp_in_nI (show k < 10 by omega) (by omega), e + 536 + 8 * k, by rw [nI_clamp (by omega)]; exact hr, s1, fun z => ?_, fun z => ⟨e + 536 + 8 * k, by rw [nI_clamp (by omega)]; exact hr, s1, ?_⟩⟩⟩
      · rw [f12, nI_leI (by omega) (by omega)]
        omega
      · rw [h1, show (4 : Int32) = nI 4 from rfl, nI_eq (by omega) (by omega)] at z
        rw [nI_1]
        refine ih (k + 1) (by omega) (fun j hj hf => ?_)
        by_cases q : j = k
        · subst q
          exact absurd hf z
        · exact h j (by omega) hf
      · rw [h1, show (4 : Int32) = nI 4 from rfl, nI_eq (by omega) (by omega)] at z
        rw [h2 z, nI_1]
        refine ⟨fun y => ?_, fun y => w_refuse d a1 ⟨_, rfl, hQ0 (fun hf => hf.2 k hkq z y)⟩⟩
        refine ih (k + 1) (by omega) (fun j hj hf => ?_)
        by_cases q : j = k
        · subst q
          exact y
        · exact h j (by omega) hf
  exact loop (y_rc S) 0 (by omega) (fun j hj => absurd hj (Nat.not_lt_zero j))
theorem ur_dropRow (d : Nat) (hS : ReS M m) (hW : SgW S) (hB : ReB M m S) (hQu : ReQs M m S K) (hQ0 : ¬ freeR S → Q (some (.int (-1))) (x_si M m 22 3)) (hQ1 : freeR S → Q (some (.int (nI (y_rc S - 1)))) (x_si (x_si (x_si M m 1 (nI (y_rc S - 1))) m 7 (nI (y_qc S))) m 22 0)) : Call G (d + 2) 0 0 mX12_drop [.ref m, .int 0] M Q := by
  obtain ⟨g0, g1, g7, g18, g22, g24⟩ := hB
  have hrc := hW.2.2.2.2.1
  have hqc := hW.2.2.2.2.2.2.1
  have fin : ∀ x3 x2 : Int32, (x3 = 0 → freeR S ∧ x2 = nI (y_rc S - 1)) → (¬ x3 = 0 → ¬ freeR S) → LX12_drop_103 G (d + 1) 0 0 m 0 x2 x3 0 M Q := by
    intro x3 x2 h1 h2
    have l155 : LX12_drop_155 G (d + 1) 0 0 m 0 x2 x3 0 M Q := by
      refine vX12_drop_155 _ _ _ _ _ ⟨fun c => ⟨hS.1, fun z => absurd rfl z, fun _ => ?_⟩, fun c => ⟨hS.1, u_refused d hS ⟨_, rfl, hQ0 (h2 c)⟩⟩⟩
      obtain ⟨hf, e2⟩ := h1 c
      rintro M14 rfl
      refine ⟨fun _ => ?_, fun z => absurd z (by decide)⟩
      rintro M16 rfl
      rw [xi_nk (by omega), g1, g7, nI_prd0 hf.1, Int32.sub_zero, e2]
      refine u_done d ?_ ?_
      · exact hS.eq rfl rfl
      exact ⟨_, rfl, hQ1 hf⟩
    refine vX12_drop_103 _ _ _ _ _ ⟨hS.1, fun _ => l155, fun _ => ⟨fun _ => l155, fun z => absurd z (by decide)⟩⟩
  have bad : ∀ r k (x2 : Int32), r + k = y_qc S → ¬ freeR S → LX12_drop_46 G (d + 1) 0 0 m 0 x2 1 (nI k) M Q := by
    intro r
    induction r with
    | zero =>
      intro k x2 hk h
      refine vX12_drop_46 _ _ _ _ _ ⟨hS.1, fun _ => fin 1 x2 (fun z => absurd z (by decide)) (fun _ => h), fun q => absurd ?_ q⟩
      rw [g7, nI_leI (by omega) (by omega)]
      omega
    | succ r ih =>
      intro k x2 hk h
      refine vX12_drop_46 _ _ _ _ _ ⟨hS.1, fun q => absurd q ?_, fun _ => ⟨fun z => absurd rfl z, fun _ => ⟨fun _ => ?_, fun z => absurd z (by decide)⟩⟩⟩
      · rw [g7, nI_leI (by omega) (by omega)]
        omega
      · rw [nI_1]
        exact ih (k + 1) x2 (by omega) h
  have loop : 0 < y_rc S → ∀ r k, r + k = y_qc S → (∀ j, j < k → qd_f (y_q S j) = 0 → bt (qd_r (y_q S j)) (y_rc S - 1) = 0) → LX12_drop_46 G (d + 1) 0 0 m 0 (nI (y_rc S - 1)) 0 (nI k) M Q := by
    intro c r
    induction r with
    | zero =>
      intro k hk h
      refine vX12_drop_46 _ _ _ _ _ ⟨hS.1, fun _ => fin 0 _ (fun _ => ⟨⟨c, fun k' hk' => h k' (by omega)⟩, rfl⟩) (fun z => absurd rfl z), fun q => absurd ?_ q⟩
      rw [g7, nI_leI (by omega) (by omega)]
      omega
    | succ r ih =>
      intro k hk h
      have hkq : k < y_qc S := by omega
      obtain ⟨h1, h2, h3, h4, h5⟩ := hQu k hkq
      obtain ⟨w1, w2, w3, w4⟩ := hW.2.2.2.2.2.2.2.1 k hkq
      refine vX12_drop_46 _ _ _ _ _ ⟨hS.1, fun q => absurd q ?_, fun _ => ⟨fun z => absurd rfl z, fun _ => ⟨fun z => absurd rfl z, fun _ => ⟨m + 6, hS.r6, by rw [hS.h6], by rw [hS.h6]; exact vp_in_nI (show k < 10 by omega) (by omega), fun z => ?_, fun z => ⟨m + 11, hS.r11, by rw [hS.h11], by rw [hS.h11]; exact vp_in_nI (show k < 10 by omega) (by omega), ?_⟩⟩⟩⟩⟩
      · rw [g7, nI_leI (by omega) (by omega)]
        omega
      · rw [nI_clamp (by omega)] at z
        rw [nI_1]
        refine ih (k + 1) (by omega) (fun j hj hf => ?_)
        by_cases q : j = k
        · subst q
          exact absurd ((ask_r hW hQu hkq).1.mpr hf) z
        · exact h j (by omega) hf
      · rw [nI_clamp (by omega)] at z
        have z' := (ask_r hW hQu hkq).1.mp z
        have hr2 := (w4 z').2.2.2
        rw [nI_clamp (by omega), (h4 z').2.2, sb (by omega) (by omega), nI_1]
        refine ⟨fun y => ?_, fun y => bad r (k + 1) _ (by omega) (fun hf => ?_)⟩
        · refine ih (k + 1) (by omega) (fun j hj hf => ?_)
          by_cases q : j = k
          · subst q
            have hle := bt_le (x := qd_r (y_q S j)) (n := y_rc S - 1)
            have hn : ¬ bt (qd_r (y_q S j)) (y_rc S - 1) = 1 := fun c => y (sb1.mpr c)
            omega
          · exact h j (by omega) hf
        · have h0 := hf.2 k hkq z'
          have h1 := sb1.mp y
          omega
  refine eX12_drop m 0 (u_in d (x := 0) (y := 0) (z := 1) (by omega) (by omega) (by omega) ?_)
  rw [if_pos (by omega)]
  refine ⟨_, rfl, fun _ => ⟨fun z => absurd rfl z, fun _ => ⟨hS.1, fun c => ?_, fun c => ?_⟩⟩, fun z => absurd z (by decide)⟩
  · rw [g1, nI_pneg (by omega)] at c
    rw [g1, nI_prd0 c]
    exact loop c (y_qc S) 0 (by omega) (fun j hj => absurd hj (Nat.not_lt_zero j))
  · rw [g1, nI_pneg (by omega)] at c
    exact bad (y_qc S) 0 _ (by omega) (fun h => c h.1)
theorem ur_dropQ (d : Nat) (hS : ReS M m) (hW : SgW S) (hB : ReB M m S) (hRo : ReRw M m S R) (hQ0 : ¬ freeQ S → Q (some (.int (-1))) (x_si M m 22 3)) (hQ1 : freeQ S → Q (some (.int (nI (y_qc S - 1)))) (x_si (x_si (x_si M m 1 (nI (y_rc S))) m 7 (nI (y_qc S - 1))) m 22 0)) : Call G (d + 2) 0 0 mX12_drop [.ref m, .int 1] M Q := by
  obtain ⟨g0, g1, g7, g18, g22, g24⟩ := hB
  have hrc := hW.2.2.2.2.1
  have hqc := hW.2.2.2.2.2.2.1
  have l155 : ∀ (x3 x2 x4 : Int32), (x3 = 0 → freeQ S ∧ x2 = nI (y_qc S - 1)) → (¬ x3 = 0 → ¬ freeQ S) → LX12_drop_155 G (d + 1) 0 0 m 1 x2 x3 x4 M Q := by
    intro x3 x2 x4 h1 h2
    refine vX12_drop_155 _ _ _ _ _ ⟨fun c => ⟨hS.1, fun _ => ?_, fun z => absurd z (by decide)⟩, fun c => ⟨hS.1, u_refused d hS ⟨_, rfl, hQ0 (h2 c)⟩⟩⟩
    obtain ⟨hf, e2⟩ := h1 c
    rintro M4 rfl
    refine ⟨fun z => absurd rfl z, fun _ => ?_⟩
    rintro M10 rfl
    rw [xi_nk (by omega), g1, g7, nI_prd0 hf.1, Int32.sub_zero, e2]
    refine u_done d ?_ ?_
    · exact hS.eq rfl rfl
    exact ⟨_, rfl, hQ1 hf⟩
  have bad : ∀ r k (x2 : Int32), r + k = y_rc S → ¬ freeQ S → LX12_drop_103 G (d + 1) 0 0 m 1 x2 1 (nI k) M Q := by
    intro r
    induction r with
    | zero =>
      intro k x2 hk h
      refine vX12_drop_103 _ _ _ _ _ ⟨hS.1, fun _ => l155 1 x2 _ (fun z => absurd z (by decide)) (fun _ => h), fun q => absurd ?_ q⟩
      rw [g1, nI_leI (by omega) (by omega)]
      omega
    | succ r ih =>
      intro k x2 hk h
      refine vX12_drop_103 _ _ _ _ _ ⟨hS.1, fun q => absurd q ?_, fun _ => ⟨fun z => absurd rfl z, fun _ => ⟨fun _ => ?_, fun z => absurd z (by decide)⟩⟩⟩
      · rw [g1, nI_leI (by omega) (by omega)]
        omega
      · rw [nI_1]
        exact ih (k + 1) x2 (by omega) h
  have loop : 0 < y_qc S → ∀ r k, r + k = y_rc S → (∀ j, j < k → y_kd S j = 4 → y_oq S j ≠ nI (y_qc S - 1)) → LX12_drop_103 G (d + 1) 0 0 m 1 (nI (y_qc S - 1)) 0 (nI k) M Q := by
    intro c r
    induction r with
    | zero =>
      intro k hk h
      refine vX12_drop_103 _ _ _ _ _ ⟨hS.1, fun _ => l155 0 _ _ (fun _ => ⟨⟨c, fun k' hk' => h k' (by omega)⟩, rfl⟩) (fun z => absurd rfl z), fun q => absurd ?_ q⟩
      rw [g1, nI_leI (by omega) (by omega)]
      omega
    | succ r ih =>
      intro k hk h
      have hkq : k < y_rc S := by omega
      obtain ⟨h1, h2, h3⟩ := hRo k hkq
      have hkd := hW.2.2.2.2.2.1 k hkq
      refine vX12_drop_103 _ _ _ _ _ ⟨hS.1, fun q => absurd q ?_, fun _ => ⟨fun z => absurd rfl z, fun _ => ⟨fun z => absurd rfl z, fun _ => ⟨m + 1, hS.r1, by rw [hS.h1], by rw [hS.h1]; exact vp_in_nI (show k < 10 by omega) (by omega), fun z => ?_, fun z => ⟨m + 5, hS.r5, by rw [hS.h5], by rw [hS.h5]; exact vp_in_nI (show k < 10 by omega) (by omega), ?_⟩⟩⟩⟩⟩
      · rw [g1, nI_leI (by omega) (by omega)]
        omega
      · rw [nI_clamp (by omega), h1, show (4 : Int32) = nI 4 from rfl, nI_eq (by omega) (by omega)] at z
        rw [nI_1]
        refine ih (k + 1) (by omega) (fun j hj hf => ?_)
        by_cases q : j = k
        · subst q
          exact absurd hf z
        · exact h j (by omega) hf
      · rw [nI_clamp (by omega), h1, show (4 : Int32) = nI 4 from rfl, nI_eq (by omega) (by omega)] at z
        rw [nI_clamp (by omega), h2 z, nI_1]
        refine ⟨fun y => ?_, fun y => bad r (k + 1) _ (by omega) (fun hf => hf.2 k hkq z y)⟩
        refine ih (k + 1) (by omega) (fun j hj hf => ?_)
        by_cases q : j = k
        · subst q
          exact y
        · exact h j (by omega) hf
  have first : ∀ (x2 x3 : Int32), LX12_drop_103 G (d + 1) 0 0 m 1 x2 x3 0 M Q → LX12_drop_46 G (d + 1) 0 0 m 1 x2 x3 0 M Q := fun x2 x3 h => vX12_drop_46 _ _ _ _ _ ⟨hS.1, fun _ => h, fun _ => ⟨fun _ => h, fun z => absurd z (by decide)⟩⟩
  refine eX12_drop m 1 (u_in d (x := 1) (y := 0) (z := 1) (by omega) (by omega) (by omega) ?_)
  rw [if_pos (by omega)]
  refine ⟨_, rfl, fun _ => ⟨fun _ => ⟨hS.1, fun c => ?_, fun c => ?_⟩, fun z => absurd z (by decide)⟩, fun z => absurd z (by decide)⟩
  · rw [g7, nI_pneg (by omega)] at c
    rw [g7, nI_prd0 c]
    exact first _ _ (loop c (y_rc S) 0 (by omega) (fun j hj => absurd hj (Nat.not_lt_zero j)))
  · rw [g7, nI_pneg (by omega)] at c
    exact first _ _ (bad (y_rc S) 0 _ (by omega) (fun h => c h.1))
end OpDrop
