/-! EndlessRows$Part: decode rows and verification conditions, by program -/
theorem dX3_init_0 : decode cX3_init 0 = .ok (.aload_n 0, 1) := by decide +kernel
theorem dX3_init_1 : decode cX3_init 1 = .ok (.invokespecial 3, 3) := by decide +kernel
theorem dX3_init_4 : decode cX3_init 4 = .ok (.aload_n 0, 1) := by decide +kernel
theorem dX3_init_5 : decode cX3_init 5 = .ok (.new 9, 3) := by decide +kernel
theorem dX3_init_8 : decode cX3_init 8 = .ok (.dup, 1) := by decide +kernel
theorem dX3_init_9 : decode cX3_init 9 = .ok (.invokespecial 11, 3) := by decide +kernel
theorem dX3_init_12 : decode cX3_init 12 = .ok (.putfield 12, 3) := by decide +kernel
theorem dX3_init_15 : decode cX3_init 15 = .ok (.aload_n 0, 1) := by decide +kernel
theorem dX3_init_16 : decode cX3_init 16 = .ok (.new 9, 3) := by decide +kernel
theorem dX3_init_19 : decode cX3_init 19 = .ok (.dup, 1) := by decide +kernel
theorem dX3_init_20 : decode cX3_init 20 = .ok (.invokespecial 11, 3) := by decide +kernel
theorem dX3_init_23 : decode cX3_init 23 = .ok (.putfield 18, 3) := by decide +kernel
theorem dX3_init_26 : decode cX3_init 26 = .ok (.aload_n 0, 1) := by decide +kernel
theorem dX3_init_27 : decode cX3_init 27 = .ok (.new 21, 3) := by decide +kernel
theorem dX3_init_30 : decode cX3_init 30 = .ok (.dup, 1) := by decide +kernel
theorem dX3_init_31 : decode cX3_init 31 = .ok (.bipush 40, 2) := by decide +kernel
theorem dX3_init_33 : decode cX3_init 33 = .ok (.bipush 27, 2) := by decide +kernel
theorem dX3_init_35 : decode cX3_init 35 = .ok (.invokespecial 23, 3) := by decide +kernel
theorem dX3_init_38 : decode cX3_init 38 = .ok (.putfield 26, 3) := by decide +kernel
theorem dX3_init_41 : decode cX3_init 41 = .ok (.aload_n 0, 1) := by decide +kernel
theorem dX3_init_42 : decode cX3_init 42 = .ok (.iconst 0, 1) := by decide +kernel
theorem dX3_init_43 : decode cX3_init 43 = .ok (.putfield 30, 3) := by decide +kernel
theorem dX3_init_46 : decode cX3_init 46 = .ok (.aload_n 0, 1) := by decide +kernel
theorem dX3_init_47 : decode cX3_init 47 = .ok (.iconst 0, 1) := by decide +kernel
theorem dX3_init_48 : decode cX3_init 48 = .ok (.putfield 34, 3) := by decide +kernel
theorem dX3_init_51 : decode cX3_init 51 = .ok (.aload_n 0, 1) := by decide +kernel
theorem dX3_init_52 : decode cX3_init 52 = .ok (.iconst (-1), 1) := by decide +kernel
theorem dX3_init_53 : decode cX3_init 53 = .ok (.putfield 37, 3) := by decide +kernel
theorem dX3_init_56 : decode cX3_init 56 = .ok (.aload_n 0, 1) := by decide +kernel
theorem dX3_init_57 : decode cX3_init 57 = .ok (.iconst (-1), 1) := by decide +kernel
theorem dX3_init_58 : decode cX3_init 58 = .ok (.putfield 40, 3) := by decide +kernel
theorem dX3_init_61 : decode cX3_init 61 = .ok (.aload_n 0, 1) := by decide +kernel
theorem dX3_init_62 : decode cX3_init 62 = .ok (.bipush 16, 2) := by decide +kernel
theorem dX3_init_64 : decode cX3_init 64 = .ok (.putfield 43, 3) := by decide +kernel
theorem dX3_init_67 : decode cX3_init 67 = .ok (.aload_n 0, 1) := by decide +kernel
theorem dX3_init_68 : decode cX3_init 68 = .ok (.iconst 0, 1) := by decide +kernel
theorem dX3_init_69 : decode cX3_init 69 = .ok (.putfield 46, 3) := by decide +kernel
theorem dX3_init_72 : decode cX3_init 72 = .ok (.return_, 1) := by decide +kernel
theorem eX3_init {G : GG} {d rc rs : Nat} (o : Nat)  {M : Mem} {Q : Option Value → Mem → Prop} (h : 1 ≤ rc ∧ 4 ≤ rs ∧ (∀ n3, n3 = g_b G + x_n M → ∀ M4, M4 = x_new M n3 24 0 → 1 ≤ (rc - 1) ∧ 8 ≤ (rs - 4) ∧ Call G d 1 8 mX8_init [.ref n3] M4 (fun r8 M9 => r8 = none ∧ (x_h M9 o).1 = 19 ∧ (∀ M11, M11 = x_sr M9 o 0 (some n3) → 1 ≤ ((rc - 1) - 1) ∧ 4 ≤ ((rs - 4) - 8) ∧ (∀ n14, n14 = g_b G + x_n M11 → ∀ M15, M15 = x_new M11 n14 24 0 → 1 ≤ (((rc - 1) - 1) - 1) ∧ 8 ≤ (((rs - 4) - 8) - 4) ∧ Call G d 1 8 mX8_init [.ref n14] M15 (fun r19 M20 => r19 = none ∧ (x_h M20 o).1 = 19 ∧ (∀ M22, M22 = x_sr M20 o 1 (some n14) → 1 ≤ ((((rc - 1) - 1) - 1) - 1) ∧ 4 ≤ ((((rs - 4) - 8) - 4) - 8) ∧ (∀ n25, n25 = g_b G + x_n M22 → ∀ M26, M26 = x_new M22 n25 17 0 → 2 ≤ (((((rc - 1) - 1) - 1) - 1) - 1) ∧ 1120 ≤ (((((rs - 4) - 8) - 4) - 8) - 4) ∧ Call G d 2 1120 mX1_init [.ref n25, .int 40, .int 27] M26 (fun r30 M31 => r30 = none ∧ (x_h M31 o).1 = 19 ∧ (∀ M33, M33 = x_sr M31 o 2 (some n25) → ∀ M34, M34 = x_si M33 o 3 0 → ∀ M35, M35 = x_si M34 o 4 0 → ∀ M36, M36 = x_si M35 o 5 (-1) → ∀ M37, M37 = x_si M36 o 6 (-1) → ∀ M38, M38 = x_si M37 o 7 16 → ∀ M39, M39 = x_si M38 o 8 0 → Q none M39)))))))))) : Call G (d + 1) rc rs mX3_init [.ref o] M Q := by
  refine call_of (by decide) (Nat.le_of_ble_eq_true rfl) ?_
  show Wk G (d + 1) rc rs mX3_init 0 [some (.ref o)] [] M Q
  refine r_aload_n (pc := 0) (i := 0) dX3_init_0 rfl rfl ?_
  refine r_objInit (pc := 1) (st := []) ww_80 ww_28 ww_29 dX3_init_1 (Nat.le_of_ble_eq_true rfl) ?_
  refine r_aload_n (pc := 4) (i := 0) dX3_init_4 rfl rfl ?_
  obtain ⟨y1, y2, h⟩ := h
  refine r_newV (pc := 5) (ci := 8) (q := (RX8, TX8, 4)) dX3_init_5 rfl ww_81 ww_82 ww_5 y1 y2 (fun n3 M4 enn3 eMn3 e5 => ?_)
  replace h := h n3 enn3 M4 eMn3
  refine r_dup (pc := 8) dX3_init_8 rfl ?_
  obtain ⟨y6, y7, h⟩ := h
  refine r_callI (pc := 9) (as := []) (st := [_, _]) okX8_init lkX3_11 inX8_init rfl dX3_init_9 rfl (Nat.le_of_ble_eq_true rfl) y6 y7 (Call.mono h (fun r8 M9 h => ?_))
  obtain ⟨rfl, h⟩ := h
  obtain ⟨k10, h⟩ := h
  refine r_putr (pc := 12) (r := some _) flX3_12 dX3_init_12 rfl (fun q hq => by cases hq; exact Or.inr ⟨rfl, rfl, rfl⟩) (fun q hq _ => by cases hq; exact ww_133) k10 ?_
  replace h := h _ rfl
  refine r_aload_n (pc := 15) (i := 0) dX3_init_15 rfl rfl ?_
  obtain ⟨y12, y13, h⟩ := h
  refine r_newV (pc := 16) (ci := 8) (q := (RX8, TX8, 4)) dX3_init_16 rfl ww_81 ww_82 ww_5 y12 y13 (fun n14 M15 enn14 eMn14 e16 => ?_)
  replace h := h n14 enn14 M15 eMn14
  refine r_dup (pc := 19) dX3_init_19 rfl ?_
  obtain ⟨y17, y18, h⟩ := h
  refine r_callI (pc := 20) (as := []) (st := [_, _]) okX8_init lkX3_11 inX8_init rfl dX3_init_20 rfl (Nat.le_of_ble_eq_true rfl) y17 y18 (Call.mono h (fun r19 M20 h => ?_))
  obtain ⟨rfl, h⟩ := h
  obtain ⟨k21, h⟩ := h
  refine r_putr (pc := 23) (r := some _) flX3_18 dX3_init_23 rfl (fun q hq => by cases hq; exact Or.inr ⟨rfl, rfl, rfl⟩) (fun q hq _ => by cases hq; exact ww_136) k21 ?_
  replace h := h _ rfl
  refine r_aload_n (pc := 26) (i := 0) dX3_init_26 rfl rfl ?_
  obtain ⟨y23, y24, h⟩ := h
  refine r_newV (pc := 27) (ci := 1) (q := (RX1, TX1, 4)) dX3_init_27 rfl ww_107 ww_108 ww_6 y23 y24 (fun n25 M26 enn25 eMn25 e27 => ?_)
  replace h := h n25 enn25 M26 eMn25
  refine r_dup (pc := 30) dX3_init_30 rfl ?_
  refine r_bipush (pc := 31) (v := 40) dX3_init_31 (by decide) ?_
  refine r_bipush (pc := 33) (v := 27) dX3_init_33 (by decide) ?_
  obtain ⟨y28, y29, h⟩ := h
  refine r_callI (pc := 35) (as := [_, _]) (st := [_, _]) okX1_init lkX3_23 inX1_init rfl dX3_init_35 rfl (Nat.le_of_ble_eq_true rfl) y28 y29 (Call.mono h (fun r30 M31 h => ?_))
  obtain ⟨rfl, h⟩ := h
  obtain ⟨k32, h⟩ := h
  refine r_putr (pc := 38) (r := some _) flX3_26 dX3_init_38 rfl (fun q hq => by cases hq; exact Or.inr ⟨rfl, rfl, rfl⟩) (fun q hq _ => by cases hq; exact ww_139) k32 ?_
  replace h := h _ rfl
  refine r_aload_n (pc := 41) (i := 0) dX3_init_41 rfl rfl ?_
  refine r_iconst (pc := 42) (v := 0) dX3_init_42 (by decide) ?_
  refine r_puti (pc := 43) flX3_30 dX3_init_43 (Or.inl rfl) (fun q hq => by cases hq; rfl) k32 ?_
  replace h := h _ rfl
  refine r_aload_n (pc := 46) (i := 0) dX3_init_46 rfl rfl ?_
  refine r_iconst (pc := 47) (v := 0) dX3_init_47 (by decide) ?_
  refine r_puti (pc := 48) flX3_34 dX3_init_48 (Or.inl rfl) (fun q hq => by cases hq; rfl) k32 ?_
  replace h := h _ rfl
  refine r_aload_n (pc := 51) (i := 0) dX3_init_51 rfl rfl ?_
  refine r_iconst (pc := 52) (v := (-1)) dX3_init_52 (by decide) ?_
  refine r_puti (pc := 53) flX3_37 dX3_init_53 (Or.inl rfl) (fun q hq => by cases hq; rfl) k32 ?_
  replace h := h _ rfl
  refine r_aload_n (pc := 56) (i := 0) dX3_init_56 rfl rfl ?_
  refine r_iconst (pc := 57) (v := (-1)) dX3_init_57 (by decide) ?_
  refine r_puti (pc := 58) flX3_40 dX3_init_58 (Or.inl rfl) (fun q hq => by cases hq; rfl) k32 ?_
  replace h := h _ rfl
  refine r_aload_n (pc := 61) (i := 0) dX3_init_61 rfl rfl ?_
  refine r_bipush (pc := 62) (v := 16) dX3_init_62 (by decide) ?_
  refine r_puti (pc := 64) flX3_43 dX3_init_64 (Or.inl rfl) (fun q hq => by cases hq; rfl) k32 ?_
  replace h := h _ rfl
  refine r_aload_n (pc := 67) (i := 0) dX3_init_67 rfl rfl ?_
  refine r_iconst (pc := 68) (v := 0) dX3_init_68 (by decide) ?_
  refine r_puti (pc := 69) flX3_46 dX3_init_69 (Or.inl rfl) (fun q hq => by cases hq; rfl) k32 ?_
  replace h := h _ rfl
  exact r_vret (pc := 72) dX3_init_72 rfl h
