/-! EndlessRows$Row: decode rows and verification conditions, by program -/
theorem dX7_init_0 : decode cX7_init 0 = .ok (.aload_n 0, 1) := by decide +kernel
theorem dX7_init_1 : decode cX7_init 1 = .ok (.invokespecial 3, 3) := by decide +kernel
theorem dX7_init_4 : decode cX7_init 4 = .ok (.aload_n 0, 1) := by decide +kernel
theorem dX7_init_5 : decode cX7_init 5 = .ok (.new 9, 3) := by decide +kernel
theorem dX7_init_8 : decode cX7_init 8 = .ok (.dup, 1) := by decide +kernel
theorem dX7_init_9 : decode cX7_init 9 = .ok (.bipush 60, 2) := by decide +kernel
theorem dX7_init_11 : decode cX7_init 11 = .ok (.iconst 3, 1) := by decide +kernel
theorem dX7_init_12 : decode cX7_init 12 = .ok (.invokespecial 11, 3) := by decide +kernel
theorem dX7_init_15 : decode cX7_init 15 = .ok (.putfield 14, 3) := by decide +kernel
theorem dX7_init_18 : decode cX7_init 18 = .ok (.aload_n 0, 1) := by decide +kernel
theorem dX7_init_19 : decode cX7_init 19 = .ok (.iconst 0, 1) := by decide +kernel
theorem dX7_init_20 : decode cX7_init 20 = .ok (.putfield 20, 3) := by decide +kernel
theorem dX7_init_23 : decode cX7_init 23 = .ok (.aload_n 0, 1) := by decide +kernel
theorem dX7_init_24 : decode cX7_init 24 = .ok (.iconst (-1), 1) := by decide +kernel
theorem dX7_init_25 : decode cX7_init 25 = .ok (.putfield 24, 3) := by decide +kernel
theorem dX7_init_28 : decode cX7_init 28 = .ok (.return_, 1) := by decide +kernel
theorem eX7_init {G : GG} {d rc rs : Nat} (o : Nat)  {M : Mem} {Q : Option Value → Mem → Prop} (h : 1 ≤ rc ∧ 4 ≤ rs ∧ (∀ n3, n3 = g_b G + x_n M → ∀ M4, M4 = x_new M n3 17 0 → 2 ≤ (rc - 1) ∧ 240 ≤ (rs - 4) ∧ Call G d 2 240 mX1_init [.ref n3, .int 60, .int 3] M4 (fun r8 M9 => r8 = none ∧ (x_h M9 o).1 = 23 ∧ (∀ M11, M11 = x_sr M9 o 0 (some n3) → ∀ M12, M12 = x_si M11 o 1 0 → ∀ M13, M13 = x_si M12 o 2 (-1) → Q none M13)))) : Call G (d + 1) rc rs mX7_init [.ref o] M Q := by
  refine call_of (by decide) (Nat.le_of_ble_eq_true rfl) ?_
  show Wk G (d + 1) rc rs mX7_init 0 [some (.ref o)] [] M Q
  refine r_aload_n (pc := 0) (i := 0) dX7_init_0 rfl rfl ?_
  refine r_objInit (pc := 1) (st := []) ww_357 ww_28 ww_29 dX7_init_1 (Nat.le_of_ble_eq_true rfl) ?_
  refine r_aload_n (pc := 4) (i := 0) dX7_init_4 rfl rfl ?_
  obtain ⟨y1, y2, h⟩ := h
  refine r_newV (pc := 5) (ci := 1) (q := (RX1, TX1, 4)) dX7_init_5 rfl ww_358 ww_108 ww_6 y1 y2 (fun n3 M4 enn3 eMn3 e5 => ?_)
  replace h := h n3 enn3 M4 eMn3
  refine r_dup (pc := 8) dX7_init_8 rfl ?_
  refine r_bipush (pc := 9) (v := 60) dX7_init_9 (by decide) ?_
  refine r_iconst (pc := 11) (v := 3) dX7_init_11 (by decide) ?_
  obtain ⟨y6, y7, h⟩ := h
  refine r_callI (pc := 12) (as := [_, _]) (st := [_, _]) okX1_init lkX7_11 inX1_init rfl dX7_init_12 rfl (Nat.le_of_ble_eq_true rfl) y6 y7 (Call.mono h (fun r8 M9 h => ?_))
  obtain ⟨rfl, h⟩ := h
  obtain ⟨k10, h⟩ := h
  refine r_putr (pc := 15) (r := some _) flX7_14 dX7_init_15 rfl (fun q hq => by cases hq; exact Or.inr ⟨rfl, rfl, rfl⟩) (fun q hq _ => by cases hq; exact ww_360) k10 ?_
  replace h := h _ rfl
  refine r_aload_n (pc := 18) (i := 0) dX7_init_18 rfl rfl ?_
  refine r_iconst (pc := 19) (v := 0) dX7_init_19 (by decide) ?_
  refine r_puti (pc := 20) flX7_20 dX7_init_20 (Or.inl rfl) (fun q hq => by cases hq; rfl) k10 ?_
  replace h := h _ rfl
  refine r_aload_n (pc := 23) (i := 0) dX7_init_23 rfl rfl ?_
  refine r_iconst (pc := 24) (v := (-1)) dX7_init_24 (by decide) ?_
  refine r_puti (pc := 25) flX7_24 dX7_init_25 (Or.inl rfl) (fun q hq => by cases hq; rfl) k10 ?_
  replace h := h _ rfl
  exact r_vret (pc := 28) dX7_init_28 rfl h
