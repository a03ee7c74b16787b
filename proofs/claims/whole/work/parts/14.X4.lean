/-! EndlessRows$Question: decode rows and verification conditions, by program -/
theorem dX4_init_0 : decode cX4_init 0 = .ok (.aload_n 0, 1) := by decide +kernel
theorem dX4_init_1 : decode cX4_init 1 = .ok (.invokespecial 3, 3) := by decide +kernel
theorem dX4_init_4 : decode cX4_init 4 = .ok (.aload_n 0, 1) := by decide +kernel
theorem dX4_init_5 : decode cX4_init 5 = .ok (.new 9, 3) := by decide +kernel
theorem dX4_init_8 : decode cX4_init 8 = .ok (.dup, 1) := by decide +kernel
theorem dX4_init_9 : decode cX4_init 9 = .ok (.bipush 40, 2) := by decide +kernel
theorem dX4_init_11 : decode cX4_init 11 = .ok (.bipush 27, 2) := by decide +kernel
theorem dX4_init_13 : decode cX4_init 13 = .ok (.invokespecial 11, 3) := by decide +kernel
theorem dX4_init_16 : decode cX4_init 16 = .ok (.putfield 14, 3) := by decide +kernel
theorem dX4_init_19 : decode cX4_init 19 = .ok (.aload_n 0, 1) := by decide +kernel
theorem dX4_init_20 : decode cX4_init 20 = .ok (.iconst 0, 1) := by decide +kernel
theorem dX4_init_21 : decode cX4_init 21 = .ok (.putfield 20, 3) := by decide +kernel
theorem dX4_init_24 : decode cX4_init 24 = .ok (.aload_n 0, 1) := by decide +kernel
theorem dX4_init_25 : decode cX4_init 25 = .ok (.iconst (-1), 1) := by decide +kernel
theorem dX4_init_26 : decode cX4_init 26 = .ok (.putfield 24, 3) := by decide +kernel
theorem dX4_init_29 : decode cX4_init 29 = .ok (.aload_n 0, 1) := by decide +kernel
theorem dX4_init_30 : decode cX4_init 30 = .ok (.iconst (-1), 1) := by decide +kernel
theorem dX4_init_31 : decode cX4_init 31 = .ok (.putfield 27, 3) := by decide +kernel
theorem dX4_init_34 : decode cX4_init 34 = .ok (.aload_n 0, 1) := by decide +kernel
theorem dX4_init_35 : decode cX4_init 35 = .ok (.iconst 0, 1) := by decide +kernel
theorem dX4_init_36 : decode cX4_init 36 = .ok (.putfield 30, 3) := by decide +kernel
theorem dX4_init_39 : decode cX4_init 39 = .ok (.aload_n 0, 1) := by decide +kernel
theorem dX4_init_40 : decode cX4_init 40 = .ok (.iconst 0, 1) := by decide +kernel
theorem dX4_init_41 : decode cX4_init 41 = .ok (.putfield 33, 3) := by decide +kernel
theorem dX4_init_44 : decode cX4_init 44 = .ok (.aload_n 0, 1) := by decide +kernel
theorem dX4_init_45 : decode cX4_init 45 = .ok (.iconst 0, 1) := by decide +kernel
theorem dX4_init_46 : decode cX4_init 46 = .ok (.putfield 36, 3) := by decide +kernel
theorem dX4_init_49 : decode cX4_init 49 = .ok (.return_, 1) := by decide +kernel
theorem dX4_clear_0 : decode cX4_clear 0 = .ok (.aload_n 0, 1) := by decide +kernel
theorem dX4_clear_1 : decode cX4_clear 1 = .ok (.iconst 0, 1) := by decide +kernel
theorem dX4_clear_2 : decode cX4_clear 2 = .ok (.putfield 20, 3) := by decide +kernel
theorem dX4_clear_5 : decode cX4_clear 5 = .ok (.aload_n 0, 1) := by decide +kernel
theorem dX4_clear_6 : decode cX4_clear 6 = .ok (.iconst (-1), 1) := by decide +kernel
theorem dX4_clear_7 : decode cX4_clear 7 = .ok (.putfield 24, 3) := by decide +kernel
theorem dX4_clear_10 : decode cX4_clear 10 = .ok (.aload_n 0, 1) := by decide +kernel
theorem dX4_clear_11 : decode cX4_clear 11 = .ok (.iconst (-1), 1) := by decide +kernel
theorem dX4_clear_12 : decode cX4_clear 12 = .ok (.putfield 27, 3) := by decide +kernel
theorem dX4_clear_15 : decode cX4_clear 15 = .ok (.aload_n 0, 1) := by decide +kernel
theorem dX4_clear_16 : decode cX4_clear 16 = .ok (.iconst 0, 1) := by decide +kernel
theorem dX4_clear_17 : decode cX4_clear 17 = .ok (.putfield 30, 3) := by decide +kernel
theorem dX4_clear_20 : decode cX4_clear 20 = .ok (.aload_n 0, 1) := by decide +kernel
theorem dX4_clear_21 : decode cX4_clear 21 = .ok (.iconst 0, 1) := by decide +kernel
theorem dX4_clear_22 : decode cX4_clear 22 = .ok (.putfield 33, 3) := by decide +kernel
theorem dX4_clear_25 : decode cX4_clear 25 = .ok (.aload_n 0, 1) := by decide +kernel
theorem dX4_clear_26 : decode cX4_clear 26 = .ok (.iconst 0, 1) := by decide +kernel
theorem dX4_clear_27 : decode cX4_clear 27 = .ok (.putfield 36, 3) := by decide +kernel
theorem dX4_clear_30 : decode cX4_clear 30 = .ok (.return_, 1) := by decide +kernel
theorem dX4_blame_0 : decode cX4_blame 0 = .ok (.aload_n 0, 1) := by decide +kernel
theorem dX4_blame_1 : decode cX4_blame 1 = .ok (.iload_n 1, 1) := by decide +kernel
theorem dX4_blame_2 : decode cX4_blame 2 = .ok (.putfield 20, 3) := by decide +kernel
theorem dX4_blame_5 : decode cX4_blame 5 = .ok (.aload_n 0, 1) := by decide +kernel
theorem dX4_blame_6 : decode cX4_blame 6 = .ok (.iload_n 2, 1) := by decide +kernel
theorem dX4_blame_7 : decode cX4_blame 7 = .ok (.putfield 24, 3) := by decide +kernel
theorem dX4_blame_10 : decode cX4_blame 10 = .ok (.return_, 1) := by decide +kernel
theorem dX4_more_0 : decode cX4_more 0 = .ok (.iload_n 1, 1) := by decide +kernel
theorem dX4_more_1 : decode cX4_more 1 = .ok (.iconst 3, 1) := by decide +kernel
theorem dX4_more_2 : decode cX4_more 2 = .ok (.if_icmp .ne 11, 3) := by decide +kernel
theorem dX4_more_5 : decode cX4_more 5 = .ok (.aload_n 0, 1) := by decide +kernel
theorem dX4_more_6 : decode cX4_more 6 = .ok (.getfield 30, 3) := by decide +kernel
theorem dX4_more_9 : decode cX4_more 9 = .ok (.invokestatic 39, 3) := by decide +kernel
theorem dX4_more_12 : decode cX4_more 12 = .ok (.ireturn, 1) := by decide +kernel
theorem dX4_more_13 : decode cX4_more 13 = .ok (.iload_n 1, 1) := by decide +kernel
theorem dX4_more_14 : decode cX4_more 14 = .ok (.bipush 7, 2) := by decide +kernel
theorem dX4_more_16 : decode cX4_more 16 = .ok (.if_icmp .ne 8, 3) := by decide +kernel
theorem dX4_more_19 : decode cX4_more 19 = .ok (.aload_n 0, 1) := by decide +kernel
theorem dX4_more_20 : decode cX4_more 20 = .ok (.getfield 33, 3) := by decide +kernel
theorem dX4_more_23 : decode cX4_more 23 = .ok (.ireturn, 1) := by decide +kernel
theorem dX4_more_24 : decode cX4_more 24 = .ok (.iload_n 1, 1) := by decide +kernel
theorem dX4_more_25 : decode cX4_more 25 = .ok (.bipush 8, 2) := by decide +kernel
theorem dX4_more_27 : decode cX4_more 27 = .ok (.if_icmp .ne 24, 3) := by decide +kernel
theorem dX4_more_30 : decode cX4_more 30 = .ok (.aload_n 0, 1) := by decide +kernel
theorem dX4_more_31 : decode cX4_more 31 = .ok (.getfield 27, 3) := by decide +kernel
theorem dX4_more_34 : decode cX4_more 34 = .ok (.iconst (-1), 1) := by decide +kernel
theorem dX4_more_35 : decode cX4_more 35 = .ok (.if_icmp .eq 8, 3) := by decide +kernel
theorem dX4_more_38 : decode cX4_more 38 = .ok (.bipush (-2), 2) := by decide +kernel
theorem dX4_more_40 : decode cX4_more 40 = .ok (.goto 10, 3) := by decide +kernel
theorem dX4_more_43 : decode cX4_more 43 = .ok (.aload_n 0, 1) := by decide +kernel
theorem dX4_more_44 : decode cX4_more 44 = .ok (.getfield 14, 3) := by decide +kernel
theorem dX4_more_47 : decode cX4_more 47 = .ok (.getfield 45, 3) := by decide +kernel
theorem dX4_more_50 : decode cX4_more 50 = .ok (.ireturn, 1) := by decide +kernel
theorem dX4_more_51 : decode cX4_more 51 = .ok (.aload_n 0, 1) := by decide +kernel
theorem dX4_more_52 : decode cX4_more 52 = .ok (.iload_n 1, 1) := by decide +kernel
theorem dX4_more_53 : decode cX4_more 53 = .ok (.iconst 4, 1) := by decide +kernel
theorem dX4_more_54 : decode cX4_more 54 = .ok (.isub, 1) := by decide +kernel
theorem dX4_more_55 : decode cX4_more 55 = .ok (.invokevirtual 48, 3) := by decide +kernel
theorem dX4_more_58 : decode cX4_more 58 = .ok (.ireturn, 1) := by decide +kernel
theorem dX4_freeName_0 : decode cX4_freeName 0 = .ok (.iconst 0, 1) := by decide +kernel
theorem dX4_freeName_1 : decode cX4_freeName 1 = .ok (.istore_n 2, 1) := by decide +kernel
theorem dX4_freeName_2 : decode cX4_freeName 2 = .ok (.iconst 0, 1) := by decide +kernel
theorem dX4_freeName_3 : decode cX4_freeName 3 = .ok (.istore_n 3, 1) := by decide +kernel
theorem dX4_freeName_4 : decode cX4_freeName 4 = .ok (.iload_n 3, 1) := by decide +kernel
theorem dX4_freeName_5 : decode cX4_freeName 5 = .ok (.bipush 8, 2) := by decide +kernel
theorem dX4_freeName_7 : decode cX4_freeName 7 = .ok (.if_icmp .ge 30, 3) := by decide +kernel
theorem dX4_freeName_10 : decode cX4_freeName 10 = .ok (.aload_n 0, 1) := by decide +kernel
theorem dX4_freeName_11 : decode cX4_freeName 11 = .ok (.getfield 30, 3) := by decide +kernel
theorem dX4_freeName_14 : decode cX4_freeName 14 = .ok (.iload_n 3, 1) := by decide +kernel
theorem dX4_freeName_15 : decode cX4_freeName 15 = .ok (.ishr, 1) := by decide +kernel
theorem dX4_freeName_16 : decode cX4_freeName 16 = .ok (.iconst 1, 1) := by decide +kernel
theorem dX4_freeName_17 : decode cX4_freeName 17 = .ok (.iand, 1) := by decide +kernel
theorem dX4_freeName_18 : decode cX4_freeName 18 = .ok (.ifCond .eq 13, 3) := by decide +kernel
theorem dX4_freeName_21 : decode cX4_freeName 21 = .ok (.iload_n 2, 1) := by decide +kernel
theorem dX4_freeName_22 : decode cX4_freeName 22 = .ok (.iload_n 1, 1) := by decide +kernel
theorem dX4_freeName_23 : decode cX4_freeName 23 = .ok (.if_icmp .ne 5, 3) := by decide +kernel
theorem dX4_freeName_26 : decode cX4_freeName 26 = .ok (.iload_n 3, 1) := by decide +kernel
theorem dX4_freeName_27 : decode cX4_freeName 27 = .ok (.ireturn, 1) := by decide +kernel
theorem dX4_freeName_28 : decode cX4_freeName 28 = .ok (.iinc 2 1, 3) := by decide +kernel
theorem dX4_freeName_31 : decode cX4_freeName 31 = .ok (.iinc 3 1, 3) := by decide +kernel
theorem dX4_freeName_34 : decode cX4_freeName 34 = .ok (.goto (-30), 3) := by decide +kernel
theorem dX4_freeName_37 : decode cX4_freeName 37 = .ok (.iconst (-1), 1) := by decide +kernel
theorem dX4_freeName_38 : decode cX4_freeName 38 = .ok (.ireturn, 1) := by decide +kernel
theorem eX4_init {G : GG} {d rc rs : Nat} (o : Nat)  {M : Mem} {Q : Option Value → Mem → Prop} (h : 1 ≤ rc ∧ 4 ≤ rs ∧ (∀ n3, n3 = g_b G + x_n M → ∀ M4, M4 = x_new M n3 17 0 → 2 ≤ (rc - 1) ∧ 1120 ≤ (rs - 4) ∧ Call G d 2 1120 mX1_init [.ref n3, .int 40, .int 27] M4 (fun r8 M9 => r8 = none ∧ (x_h M9 o).1 = 20 ∧ (∀ M11, M11 = x_sr M9 o 0 (some n3) → ∀ M12, M12 = x_si M11 o 1 0 → ∀ M13, M13 = x_si M12 o 2 (-1) → ∀ M14, M14 = x_si M13 o 3 (-1) → ∀ M15, M15 = x_si M14 o 4 0 → ∀ M16, M16 = x_si M15 o 5 0 → ∀ M17, M17 = x_si M16 o 6 0 → Q none M17)))) : Call G (d + 1) rc rs mX4_init [.ref o] M Q := by
  refine call_of (by decide) (Nat.le_of_ble_eq_true rfl) ?_
  show Wk G (d + 1) rc rs mX4_init 0 [some (.ref o)] [] M Q
  refine r_aload_n (pc := 0) (i := 0) dX4_init_0 rfl rfl ?_
  refine r_objInit (pc := 1) (st := []) ww_379 ww_28 ww_29 dX4_init_1 (Nat.le_of_ble_eq_true rfl) ?_
  refine r_aload_n (pc := 4) (i := 0) dX4_init_4 rfl rfl ?_
  obtain ⟨y1, y2, h⟩ := h
  refine r_newV (pc := 5) (ci := 1) (q := (RX1, TX1, 4)) dX4_init_5 rfl ww_380 ww_108 ww_6 y1 y2 (fun n3 M4 enn3 eMn3 e5 => ?_)
  replace h := h n3 enn3 M4 eMn3
  refine r_dup (pc := 8) dX4_init_8 rfl ?_
  refine r_bipush (pc := 9) (v := 40) dX4_init_9 (by decide) ?_
  refine r_bipush (pc := 11) (v := 27) dX4_init_11 (by decide) ?_
  obtain ⟨y6, y7, h⟩ := h
  refine r_callI (pc := 13) (as := [_, _]) (st := [_, _]) okX1_init lkX4_11 inX1_init rfl dX4_init_13 rfl (Nat.le_of_ble_eq_true rfl) y6 y7 (Call.mono h (fun r8 M9 h => ?_))
  obtain ⟨rfl, h⟩ := h
  obtain ⟨k10, h⟩ := h
  refine r_putr (pc := 16) (r := some _) flX4_14 dX4_init_16 rfl (fun q hq => by cases hq; exact Or.inr ⟨rfl, rfl, rfl⟩) (fun q hq _ => by cases hq; exact ww_382) k10 ?_
  replace h := h _ rfl
  refine r_aload_n (pc := 19) (i := 0) dX4_init_19 rfl rfl ?_
  refine r_iconst (pc := 20) (v := 0) dX4_init_20 (by decide) ?_
  refine r_puti (pc := 21) flX4_20 dX4_init_21 (Or.inl rfl) (fun q hq => by cases hq; rfl) k10 ?_
  replace h := h _ rfl
  refine r_aload_n (pc := 24) (i := 0) dX4_init_24 rfl rfl ?_
  refine r_iconst (pc := 25) (v := (-1)) dX4_init_25 (by decide) ?_
  refine r_puti (pc := 26) flX4_24 dX4_init_26 (Or.inl rfl) (fun q hq => by cases hq; rfl) k10 ?_
  replace h := h _ rfl
  refine r_aload_n (pc := 29) (i := 0) dX4_init_29 rfl rfl ?_
  refine r_iconst (pc := 30) (v := (-1)) dX4_init_30 (by decide) ?_
  refine r_puti (pc := 31) flX4_27 dX4_init_31 (Or.inl rfl) (fun q hq => by cases hq; rfl) k10 ?_
  replace h := h _ rfl
  refine r_aload_n (pc := 34) (i := 0) dX4_init_34 rfl rfl ?_
  refine r_iconst (pc := 35) (v := 0) dX4_init_35 (by decide) ?_
  refine r_puti (pc := 36) flX4_30 dX4_init_36 (Or.inl rfl) (fun q hq => by cases hq; rfl) k10 ?_
  replace h := h _ rfl
  refine r_aload_n (pc := 39) (i := 0) dX4_init_39 rfl rfl ?_
  refine r_iconst (pc := 40) (v := 0) dX4_init_40 (by decide) ?_
  refine r_puti (pc := 41) flX4_33 dX4_init_41 (Or.inl rfl) (fun q hq => by cases hq; rfl) k10 ?_
  replace h := h _ rfl
  refine r_aload_n (pc := 44) (i := 0) dX4_init_44 rfl rfl ?_
  refine r_iconst (pc := 45) (v := 0) dX4_init_45 (by decide) ?_
  refine r_puti (pc := 46) flX4_36 dX4_init_46 (Or.inl rfl) (fun q hq => by cases hq; rfl) k10 ?_
  replace h := h _ rfl
  exact r_vret (pc := 49) dX4_init_49 rfl h
theorem eX4_clear {G : GG} {d rc rs : Nat} (o : Nat)  {M : Mem} {Q : Option Value → Mem → Prop} (h : (x_h M o).1 = 20 ∧ (∀ M2, M2 = x_si M o 1 0 → ∀ M3, M3 = x_si M2 o 2 (-1) → ∀ M4, M4 = x_si M3 o 3 (-1) → ∀ M5, M5 = x_si M4 o 4 0 → ∀ M6, M6 = x_si M5 o 5 0 → ∀ M7, M7 = x_si M6 o 6 0 → Q none M7)) : Call G (d + 1) rc rs mX4_clear [.ref o] M Q := by
  refine call_of (by decide) (Nat.le_of_ble_eq_true rfl) ?_
  show Wk G (d + 1) rc rs mX4_clear 0 [some (.ref o)] [] M Q
  refine r_aload_n (pc := 0) (i := 0) dX4_clear_0 rfl rfl ?_
  refine r_iconst (pc := 1) (v := 0) dX4_clear_1 (by decide) ?_
  obtain ⟨k1, h⟩ := h
  refine r_puti (pc := 2) flX4_20 dX4_clear_2 (Or.inl rfl) (fun q hq => by cases hq; rfl) k1 ?_
  replace h := h _ rfl
  refine r_aload_n (pc := 5) (i := 0) dX4_clear_5 rfl rfl ?_
  refine r_iconst (pc := 6) (v := (-1)) dX4_clear_6 (by decide) ?_
  refine r_puti (pc := 7) flX4_24 dX4_clear_7 (Or.inl rfl) (fun q hq => by cases hq; rfl) k1 ?_
  replace h := h _ rfl
  refine r_aload_n (pc := 10) (i := 0) dX4_clear_10 rfl rfl ?_
  refine r_iconst (pc := 11) (v := (-1)) dX4_clear_11 (by decide) ?_
  refine r_puti (pc := 12) flX4_27 dX4_clear_12 (Or.inl rfl) (fun q hq => by cases hq; rfl) k1 ?_
  replace h := h _ rfl
  refine r_aload_n (pc := 15) (i := 0) dX4_clear_15 rfl rfl ?_
  refine r_iconst (pc := 16) (v := 0) dX4_clear_16 (by decide) ?_
  refine r_puti (pc := 17) flX4_30 dX4_clear_17 (Or.inl rfl) (fun q hq => by cases hq; rfl) k1 ?_
  replace h := h _ rfl
  refine r_aload_n (pc := 20) (i := 0) dX4_clear_20 rfl rfl ?_
  refine r_iconst (pc := 21) (v := 0) dX4_clear_21 (by decide) ?_
  refine r_puti (pc := 22) flX4_33 dX4_clear_22 (Or.inl rfl) (fun q hq => by cases hq; rfl) k1 ?_
  replace h := h _ rfl
  refine r_aload_n (pc := 25) (i := 0) dX4_clear_25 rfl rfl ?_
  refine r_iconst (pc := 26) (v := 0) dX4_clear_26 (by decide) ?_
  refine r_puti (pc := 27) flX4_36 dX4_clear_27 (Or.inl rfl) (fun q hq => by cases hq; rfl) k1 ?_
  replace h := h _ rfl
  exact r_vret (pc := 30) dX4_clear_30 rfl h
theorem eX4_blame {G : GG} {d rc rs : Nat} (o : Nat) (a1 : Int32) (a2 : Int32)  {M : Mem} {Q : Option Value → Mem → Prop} (h : (x_h M o).1 = 20 ∧ (∀ M2, M2 = x_si M o 1 a1 → ∀ M3, M3 = x_si M2 o 2 a2 → Q none M3)) : Call G (d + 1) rc rs mX4_blame [.ref o, .int a1, .int a2] M Q := by
  refine call_of (by decide) (Nat.le_of_ble_eq_true rfl) ?_
  show Wk G (d + 1) rc rs mX4_blame 0 [some (.ref o), some (.int a1), some (.int a2)] [] M Q
  refine r_aload_n (pc := 0) (i := 0) dX4_blame_0 rfl rfl ?_
  refine r_iload_n (pc := 1) (i := 1) dX4_blame_1 rfl rfl ?_
  obtain ⟨k1, h⟩ := h
  refine r_puti (pc := 2) flX4_20 dX4_blame_2 (Or.inl rfl) (fun q hq => by cases hq; rfl) k1 ?_
  replace h := h _ rfl
  refine r_aload_n (pc := 5) (i := 0) dX4_blame_5 rfl rfl ?_
  refine r_iload_n (pc := 6) (i := 2) dX4_blame_6 rfl rfl ?_
  refine r_puti (pc := 7) flX4_24 dX4_blame_7 (Or.inl rfl) (fun q hq => by cases hq; rfl) k1 ?_
  replace h := h _ rfl
  exact r_vret (pc := 10) dX4_blame_10 rfl h
theorem eX4_more {G : GG} {d rc rs : Nat} (o : Nat) (a1 : Int32)  {M : Mem} {Q : Option Value → Mem → Prop} (h : (¬ a1 = 3 → (¬ a1 = 7 → (¬ a1 = 8 → (x_h M o).1 = 20 ∧ Call G d 0 0 mX4_freeName [.ref o, .int (a1 - 4)] M (fun r5 M6 => ∃ v7 : Int32, r5 = some (.int v7) ∧ Q (some (.int v7)) M6)) ∧ (a1 = 8 → (x_h M o).1 = 20 ∧ ((x_i M o 3) = (-1) → ∃ b10, x_r M o 0 = some b10 ∧ (x_h M b10).1 = 17 ∧ Q (some (.int (x_i M b10 2))) M) ∧ (¬ (x_i M o 3) = (-1) → Q (some (.int (-2))) M))) ∧ (a1 = 7 → (x_h M o).1 = 20 ∧ Q (some (.int (x_i M o 5))) M)) ∧ (a1 = 3 → (x_h M o).1 = 20 ∧ Call G d 0 0 mJ6_bitCount_0f7a4 [.int (x_i M o 4)] M (fun r14 M15 => ∃ v16 : Int32, r14 = some (.int v16) ∧ Q (some (.int v16)) M15))) : Call G (d + 1) rc rs mX4_more [.ref o, .int a1] M Q := by
  refine call_of (by decide) (Nat.le_of_ble_eq_true rfl) ?_
  show Wk G (d + 1) rc rs mX4_more 0 [some (.ref o), some (.int a1)] [] M Q
  refine r_iload_n (pc := 0) (i := 1) dX4_more_0 rfl rfl ?_
  refine r_iconst (pc := 1) (v := 3) dX4_more_1 (by decide) ?_
  refine r_icmp_ne (pc := 2) (tgt := 13) dX4_more_2 (by decide) (fun c1 => ?_) (fun c1 => ?_)
  · replace h := h.1 c1
    refine r_iload_n (pc := 13) (i := 1) dX4_more_13 rfl rfl ?_
    refine r_bipush (pc := 14) (v := 7) dX4_more_14 (by decide) ?_
    refine r_icmp_ne (pc := 16) (tgt := 24) dX4_more_16 (by decide) (fun c2 => ?_) (fun c2 => ?_)
    · replace h := h.1 c2
      refine r_iload_n (pc := 24) (i := 1) dX4_more_24 rfl rfl ?_
      refine r_bipush (pc := 25) (v := 8) dX4_more_25 (by decide) ?_
      refine r_icmp_ne (pc := 27) (tgt := 51) dX4_more_27 (by decide) (fun c3 => ?_) (fun c3 => ?_)
      · replace h := h.1 c3
        refine r_aload_n (pc := 51) (i := 0) dX4_more_51 rfl rfl ?_
        refine r_iload_n (pc := 52) (i := 1) dX4_more_52 rfl rfl ?_
        refine r_iconst (pc := 53) (v := 4) dX4_more_53 (by decide) ?_
        refine r_isub (pc := 54) dX4_more_54 ?_
        obtain ⟨k4, h⟩ := h
        refine r_callV (pc := 55) (ci := 4) (as := [_]) (st := []) okX4_freeName lkX4_48 inX4_freeName seX4_freeName ⟨_, rfl, rfl⟩ dX4_more_55 rfl k4 (Nat.le_of_ble_eq_true rfl) (Nat.zero_le _) (Nat.zero_le _) (Call.mono h (fun r5 M6 h => ?_))
        obtain ⟨v7, rfl, h⟩ := h
        exact r_iret (pc := 58) dX4_more_58 rfl h
      · replace h := h.2 c3
        refine r_aload_n (pc := 30) (i := 0) dX4_more_30 rfl rfl ?_
        obtain ⟨k8, h⟩ := h
        refine r_geti (pc := 31) flX4_27 dX4_more_31 (Or.inl rfl) k8 ?_
        refine r_iconst (pc := 34) (v := (-1)) dX4_more_34 (by decide) ?_
        refine r_icmp_eq (pc := 35) (tgt := 43) dX4_more_35 (by decide) (fun c9 => ?_) (fun c9 => ?_)
        · replace h := h.1 c9
          refine r_aload_n (pc := 43) (i := 0) dX4_more_43 rfl rfl ?_
          obtain ⟨b10, hb10, h⟩ := h
          refine r_getr (pc := 44) flX4_14 dX4_more_44 rfl k8 hb10 ?_
          obtain ⟨k11, h⟩ := h
          refine r_geti (pc := 47) flX4_45 dX4_more_47 (Or.inl rfl) k11 ?_
          exact r_iret (pc := 50) dX4_more_50 rfl h
        · replace h := h.2 c9
          refine r_bipush (pc := 38) (v := (-2)) dX4_more_38 (by decide) ?_
          refine r_goto (pc := 40) (tgt := 50) dX4_more_40 (by decide) ?_
          exact r_iret (pc := 50) dX4_more_50 rfl h
    · replace h := h.2 c2
      refine r_aload_n (pc := 19) (i := 0) dX4_more_19 rfl rfl ?_
      obtain ⟨k12, h⟩ := h
      refine r_geti (pc := 20) flX4_33 dX4_more_20 (Or.inl rfl) k12 ?_
      exact r_iret (pc := 23) dX4_more_23 rfl h
  · replace h := h.2 c1
    refine r_aload_n (pc := 5) (i := 0) dX4_more_5 rfl rfl ?_
    obtain ⟨k13, h⟩ := h
    refine r_geti (pc := 6) flX4_30 dX4_more_6 (Or.inl rfl) k13 ?_
    refine r_callS (pc := 9) (as := [_]) (st := []) okJ6_bitCount_0f7a4 lkX4_39 stJ6_bitCount_0f7a4 dX4_more_9 rfl (Nat.le_of_ble_eq_true rfl) (Nat.zero_le _) (Nat.zero_le _) (Call.mono h (fun r14 M15 h => ?_))
    obtain ⟨v16, rfl, h⟩ := h
    exact r_iret (pc := 12) dX4_more_12 rfl h
abbrev LX4_freeName_4 (G : GG) (d rc rs : Nat) (p0 : Nat) (x1 : Int32) (x2 : Int32) (x3 : Int32) (M : Mem) (Q : Option Value → Mem → Prop) : Prop := Wk G (d + 1) rc rs mX4_freeName 4 [some (.ref p0), some (.int x1), some (.int x2), some (.int x3)] [] M Q
theorem eX4_freeName {G : GG} {d rc rs : Nat} (o : Nat) (a1 : Int32)  {M : Mem} {Q : Option Value → Mem → Prop} (h : LX4_freeName_4 G d rc rs o a1 0 0 M Q) : Call G (d + 1) rc rs mX4_freeName [.ref o, .int a1] M Q := by
  refine call_of (by decide) (Nat.le_of_ble_eq_true rfl) ?_
  show Wk G (d + 1) rc rs mX4_freeName 0 [some (.ref o), some (.int a1), none, none] [] M Q
  refine r_iconst (pc := 0) (v := 0) dX4_freeName_0 (by decide) ?_
  refine r_istore_n (pc := 1) (i := 2) dX4_freeName_1 rfl rfl (Nat.le_of_ble_eq_true rfl) ?_
  refine r_iconst (pc := 2) (v := 0) dX4_freeName_2 (by decide) ?_
  refine r_istore_n (pc := 3) (i := 3) dX4_freeName_3 rfl rfl (Nat.le_of_ble_eq_true rfl) ?_
  exact h
theorem vX4_freeName_4 {G : GG} {d rc rs : Nat} (p0 : Nat) (x1 : Int32) (x2 : Int32) (x3 : Int32)  {M : Mem} {Q : Option Value → Mem → Prop} (h : (8 ≤ x3 → Q (some (.int (-1))) M) ∧ (¬ 8 ≤ x3 → (x_h M p0).1 = 20 ∧ ((((x_i M p0 4) >>> (x3 &&& 31)) &&& 1) = 0 → LX4_freeName_4 G d rc rs p0 x1 x2 (x3 + 1) M Q) ∧ (¬ (((x_i M p0 4) >>> (x3 &&& 31)) &&& 1) = 0 → (¬ x2 = x1 → LX4_freeName_4 G d rc rs p0 x1 (x2 + 1) (x3 + 1) M Q) ∧ (x2 = x1 → Q (some (.int x3)) M)))) : LX4_freeName_4 G d rc rs p0 x1 x2 x3 M Q := by
  show Wk G (d + 1) rc rs mX4_freeName 4 _ _ M Q
  refine r_iload_n (pc := 4) (i := 3) dX4_freeName_4 rfl rfl ?_
  refine r_bipush (pc := 5) (v := 8) dX4_freeName_5 (by decide) ?_
  refine r_icmp_ge (pc := 7) (tgt := 37) dX4_freeName_7 (by decide) (fun c1 => ?_) (fun c1 => ?_)
  · replace h := h.1 c1
    refine r_iconst (pc := 37) (v := (-1)) dX4_freeName_37 (by decide) ?_
    exact r_iret (pc := 38) dX4_freeName_38 rfl h
  · replace h := h.2 c1
    refine r_aload_n (pc := 10) (i := 0) dX4_freeName_10 rfl rfl ?_
    obtain ⟨k2, h⟩ := h
    refine r_geti (pc := 11) flX4_30 dX4_freeName_11 (Or.inl rfl) k2 ?_
    refine r_iload_n (pc := 14) (i := 3) dX4_freeName_14 rfl rfl ?_
    refine r_ishr (pc := 15) dX4_freeName_15 ?_
    refine r_iconst (pc := 16) (v := 1) dX4_freeName_16 (by decide) ?_
    refine r_iand (pc := 17) dX4_freeName_17 ?_
    refine r_if_eq (pc := 18) (tgt := 31) dX4_freeName_18 (by decide) (fun c3 => ?_) (fun c3 => ?_)
    · replace h := h.1 c3
      refine r_iinc (pc := 31) (i := 3) (v := _ + 1) dX4_freeName_31 rfl rfl rfl ?_
      refine r_goto (pc := 34) (tgt := 4) dX4_freeName_34 (by decide) ?_
      exact h
    · replace h := h.2 c3
      refine r_iload_n (pc := 21) (i := 2) dX4_freeName_21 rfl rfl ?_
      refine r_iload_n (pc := 22) (i := 1) dX4_freeName_22 rfl rfl ?_
      refine r_icmp_ne (pc := 23) (tgt := 28) dX4_freeName_23 (by decide) (fun c4 => ?_) (fun c4 => ?_)
      · replace h := h.1 c4
        refine r_iinc (pc := 28) (i := 2) (v := _ + 1) dX4_freeName_28 rfl rfl rfl ?_
        refine r_iinc (pc := 31) (i := 3) (v := _ + 1) dX4_freeName_31 rfl rfl rfl ?_
        refine r_goto (pc := 34) (tgt := 4) dX4_freeName_34 (by decide) ?_
        exact h
      · replace h := h.2 c4
        refine r_iload_n (pc := 26) (i := 3) dX4_freeName_26 rfl rfl ?_
        exact r_iret (pc := 27) dX4_freeName_27 rfl h
