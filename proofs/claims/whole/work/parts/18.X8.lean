/-! EndlessRows$Side: decode rows and verification conditions, by program -/
theorem dX8_init_0 : decode cX8_init 0 = .ok (.aload_n 0, 1) := by decide +kernel
theorem dX8_init_1 : decode cX8_init 1 = .ok (.invokespecial 3, 3) := by decide +kernel
theorem dX8_init_4 : decode cX8_init 4 = .ok (.aload_n 0, 1) := by decide +kernel
theorem dX8_init_5 : decode cX8_init 5 = .ok (.bipush 8, 2) := by decide +kernel
theorem dX8_init_7 : decode cX8_init 7 = .ok (.newarray .int, 2) := by decide +kernel
theorem dX8_init_9 : decode cX8_init 9 = .ok (.putfield 9, 3) := by decide +kernel
theorem dX8_init_12 : decode cX8_init 12 = .ok (.aload_n 0, 1) := by decide +kernel
theorem dX8_init_13 : decode cX8_init 13 = .ok (.iconst (-1), 1) := by decide +kernel
theorem dX8_init_14 : decode cX8_init 14 = .ok (.putfield 15, 3) := by decide +kernel
theorem dX8_init_17 : decode cX8_init 17 = .ok (.aload_n 0, 1) := by decide +kernel
theorem dX8_init_18 : decode cX8_init 18 = .ok (.iconst 0, 1) := by decide +kernel
theorem dX8_init_19 : decode cX8_init 19 = .ok (.putfield 19, 3) := by decide +kernel
theorem dX8_init_22 : decode cX8_init 22 = .ok (.aload_n 0, 1) := by decide +kernel
theorem dX8_init_23 : decode cX8_init 23 = .ok (.iconst 0, 1) := by decide +kernel
theorem dX8_init_24 : decode cX8_init 24 = .ok (.putfield 22, 3) := by decide +kernel
theorem dX8_init_27 : decode cX8_init 27 = .ok (.return_, 1) := by decide +kernel
theorem dX8_clear_0 : decode cX8_clear 0 = .ok (.aload_n 0, 1) := by decide +kernel
theorem dX8_clear_1 : decode cX8_clear 1 = .ok (.getfield 9, 3) := by decide +kernel
theorem dX8_clear_4 : decode cX8_clear 4 = .ok (.iconst 0, 1) := by decide +kernel
theorem dX8_clear_5 : decode cX8_clear 5 = .ok (.invokestatic 25, 3) := by decide +kernel
theorem dX8_clear_8 : decode cX8_clear 8 = .ok (.aload_n 0, 1) := by decide +kernel
theorem dX8_clear_9 : decode cX8_clear 9 = .ok (.iconst (-1), 1) := by decide +kernel
theorem dX8_clear_10 : decode cX8_clear 10 = .ok (.putfield 15, 3) := by decide +kernel
theorem dX8_clear_13 : decode cX8_clear 13 = .ok (.aload_n 0, 1) := by decide +kernel
theorem dX8_clear_14 : decode cX8_clear 14 = .ok (.iconst 0, 1) := by decide +kernel
theorem dX8_clear_15 : decode cX8_clear 15 = .ok (.putfield 19, 3) := by decide +kernel
theorem dX8_clear_18 : decode cX8_clear 18 = .ok (.aload_n 0, 1) := by decide +kernel
theorem dX8_clear_19 : decode cX8_clear 19 = .ok (.iconst 0, 1) := by decide +kernel
theorem dX8_clear_20 : decode cX8_clear 20 = .ok (.putfield 22, 3) := by decide +kernel
theorem dX8_clear_23 : decode cX8_clear 23 = .ok (.return_, 1) := by decide +kernel
theorem dX8_addName_0 : decode cX8_addName 0 = .ok (.iload_n 1, 1) := by decide +kernel
theorem dX8_addName_1 : decode cX8_addName 1 = .ok (.ifCond .lt 31, 3) := by decide +kernel
theorem dX8_addName_4 : decode cX8_addName 4 = .ok (.iload_n 1, 1) := by decide +kernel
theorem dX8_addName_5 : decode cX8_addName 5 = .ok (.bipush 8, 2) := by decide +kernel
theorem dX8_addName_7 : decode cX8_addName 7 = .ok (.if_icmp .ge 25, 3) := by decide +kernel
theorem dX8_addName_10 : decode cX8_addName 10 = .ok (.aload_n 0, 1) := by decide +kernel
theorem dX8_addName_11 : decode cX8_addName 11 = .ok (.getfield 9, 3) := by decide +kernel
theorem dX8_addName_14 : decode cX8_addName 14 = .ok (.iload_n 1, 1) := by decide +kernel
theorem dX8_addName_15 : decode cX8_addName 15 = .ok (.dup2, 1) := by decide +kernel
theorem dX8_addName_16 : decode cX8_addName 16 = .ok (.iaload, 1) := by decide +kernel
theorem dX8_addName_17 : decode cX8_addName 17 = .ok (.iconst 1, 1) := by decide +kernel
theorem dX8_addName_18 : decode cX8_addName 18 = .ok (.iadd, 1) := by decide +kernel
theorem dX8_addName_19 : decode cX8_addName 19 = .ok (.iastore, 1) := by decide +kernel
theorem dX8_addName_20 : decode cX8_addName 20 = .ok (.aload_n 0, 1) := by decide +kernel
theorem dX8_addName_21 : decode cX8_addName 21 = .ok (.dup, 1) := by decide +kernel
theorem dX8_addName_22 : decode cX8_addName 22 = .ok (.getfield 22, 3) := by decide +kernel
theorem dX8_addName_25 : decode cX8_addName 25 = .ok (.iconst 1, 1) := by decide +kernel
theorem dX8_addName_26 : decode cX8_addName 26 = .ok (.iload_n 1, 1) := by decide +kernel
theorem dX8_addName_27 : decode cX8_addName 27 = .ok (.ishl, 1) := by decide +kernel
theorem dX8_addName_28 : decode cX8_addName 28 = .ok (.ior, 1) := by decide +kernel
theorem dX8_addName_29 : decode cX8_addName 29 = .ok (.putfield 22, 3) := by decide +kernel
theorem dX8_addName_32 : decode cX8_addName 32 = .ok (.return_, 1) := by decide +kernel
theorem eX8_init {G : GG} {d rc rs : Nat} (o : Nat)  {M : Mem} {Q : Option Value → Mem → Prop} (h : 1 ≤ rc ∧ 8 ≤ rs ∧ (∀ n1, n1 = g_b G + x_n M → ∀ M2, M2 = x_new M n1 1 8 → (x_h M2 o).1 = 24 ∧ (∀ M7, M7 = x_sr M2 o 0 (some n1) → ∀ M8, M8 = x_si M7 o 1 (-1) → ∀ M9, M9 = x_si M8 o 2 0 → ∀ M10, M10 = x_si M9 o 3 0 → Q none M10))) : Call G (d + 1) rc rs mX8_init [.ref o] M Q := by
  refine call_of (by decide) (Nat.le_of_ble_eq_true rfl) ?_
  show Wk G (d + 1) rc rs mX8_init 0 [some (.ref o)] [] M Q
  refine r_aload_n (pc := 0) (i := 0) dX8_init_0 rfl rfl ?_
  refine r_objInit (pc := 1) (st := []) ww_86 ww_28 ww_29 dX8_init_1 (Nat.le_of_ble_eq_true rfl) ?_
  refine r_aload_n (pc := 4) (i := 0) dX8_init_4 rfl rfl ?_
  refine r_bipush (pc := 5) (v := 8) dX8_init_5 (by decide) ?_
  obtain ⟨y4, y5, h⟩ := h
  refine r_newIV (pc := 7) (n := 8) dX8_init_7 (by decide) (by decide) (by decide) y4 y5 (fun n1 M2 enn1 eMn1 e3 => ?_)
  replace h := h n1 enn1 M2 eMn1
  obtain ⟨k6, h⟩ := h
  refine r_putr (pc := 9) (r := some _) flX8_9 dX8_init_9 rfl (fun q hq => by cases hq; exact Or.inr ⟨rfl, rfl, rfl⟩) (fun q hq _ => by cases hq; exact ww_87) k6 ?_
  replace h := h _ rfl
  refine r_aload_n (pc := 12) (i := 0) dX8_init_12 rfl rfl ?_
  refine r_iconst (pc := 13) (v := (-1)) dX8_init_13 (by decide) ?_
  refine r_puti (pc := 14) flX8_15 dX8_init_14 (Or.inl rfl) (fun q hq => by cases hq; rfl) k6 ?_
  replace h := h _ rfl
  refine r_aload_n (pc := 17) (i := 0) dX8_init_17 rfl rfl ?_
  refine r_iconst (pc := 18) (v := 0) dX8_init_18 (by decide) ?_
  refine r_puti (pc := 19) flX8_19 dX8_init_19 (Or.inl rfl) (fun q hq => by cases hq; rfl) k6 ?_
  replace h := h _ rfl
  refine r_aload_n (pc := 22) (i := 0) dX8_init_22 rfl rfl ?_
  refine r_iconst (pc := 23) (v := 0) dX8_init_23 (by decide) ?_
  refine r_puti (pc := 24) flX8_22 dX8_init_24 (Or.inl rfl) (fun q hq => by cases hq; rfl) k6 ?_
  replace h := h _ rfl
  exact r_vret (pc := 27) dX8_init_27 rfl h
theorem eX8_clear {G : GG} {d rc rs : Nat} (o : Nat)  {M : Mem} {Q : Option Value → Mem → Prop} (h : (x_h M o).1 = 24 ∧ (∃ b2, x_r M o 0 = some b2 ∧ Call G d 0 0 mJ7_fill_53178 [.ref b2, .int 0] M (fun r3 M4 => r3 = none ∧ (x_h M4 o).1 = 24 ∧ (∀ M6, M6 = x_si M4 o 1 (-1) → ∀ M7, M7 = x_si M6 o 2 0 → ∀ M8, M8 = x_si M7 o 3 0 → Q none M8)))) : Call G (d + 1) rc rs mX8_clear [.ref o] M Q := by
  refine call_of (by decide) (Nat.le_of_ble_eq_true rfl) ?_
  show Wk G (d + 1) rc rs mX8_clear 0 [some (.ref o)] [] M Q
  refine r_aload_n (pc := 0) (i := 0) dX8_clear_0 rfl rfl ?_
  obtain ⟨k1, h⟩ := h
  obtain ⟨b2, hb2, h⟩ := h
  refine r_getr (pc := 1) flX8_9 dX8_clear_1 rfl k1 hb2 ?_
  refine r_iconst (pc := 4) (v := 0) dX8_clear_4 (by decide) ?_
  refine r_callS (pc := 5) (as := [_, _]) (st := []) okJ7_fill_53178 lkX8_25 stJ7_fill_53178 dX8_clear_5 rfl (Nat.le_of_ble_eq_true rfl) (Nat.zero_le _) (Nat.zero_le _) (Call.mono h (fun r3 M4 h => ?_))
  obtain ⟨rfl, h⟩ := h
  refine r_aload_n (pc := 8) (i := 0) dX8_clear_8 rfl rfl ?_
  refine r_iconst (pc := 9) (v := (-1)) dX8_clear_9 (by decide) ?_
  obtain ⟨k5, h⟩ := h
  refine r_puti (pc := 10) flX8_15 dX8_clear_10 (Or.inl rfl) (fun q hq => by cases hq; rfl) k5 ?_
  replace h := h _ rfl
  refine r_aload_n (pc := 13) (i := 0) dX8_clear_13 rfl rfl ?_
  refine r_iconst (pc := 14) (v := 0) dX8_clear_14 (by decide) ?_
  refine r_puti (pc := 15) flX8_19 dX8_clear_15 (Or.inl rfl) (fun q hq => by cases hq; rfl) k5 ?_
  replace h := h _ rfl
  refine r_aload_n (pc := 18) (i := 0) dX8_clear_18 rfl rfl ?_
  refine r_iconst (pc := 19) (v := 0) dX8_clear_19 (by decide) ?_
  refine r_puti (pc := 20) flX8_22 dX8_clear_20 (Or.inl rfl) (fun q hq => by cases hq; rfl) k5 ?_
  replace h := h _ rfl
  exact r_vret (pc := 23) dX8_clear_23 rfl h
theorem eX8_addName {G : GG} {d rc rs : Nat} (o : Nat) (a1 : Int32)  {M : Mem} {Q : Option Value → Mem → Prop} (h : (a1 < 0 → Q none M) ∧ (¬ a1 < 0 → (8 ≤ a1 → Q none M) ∧ (¬ 8 ≤ a1 → (x_h M o).1 = 24 ∧ (∃ b4, x_r M o 0 = some b4 ∧ (x_h M b4).1 = 1 ∧ vp_in a1 (x_h M b4).2 ∧ (∀ M7, M7 = x_si M b4 a1.toNatClampNeg ((x_i M b4 a1.toNatClampNeg) + 1) → ∀ M8, M8 = x_si M7 o 3 ((x_i M7 o 3) ||| (1 <<< (a1 &&& 31))) → Q none M8))))) : Call G (d + 1) rc rs mX8_addName [.ref o, .int a1] M Q := by
  refine call_of (by decide) (Nat.le_of_ble_eq_true rfl) ?_
  show Wk G (d + 1) rc rs mX8_addName 0 [some (.ref o), some (.int a1)] [] M Q
  refine r_iload_n (pc := 0) (i := 1) dX8_addName_0 rfl rfl ?_
  refine r_if_lt (pc := 1) (tgt := 32) dX8_addName_1 (by decide) (fun c1 => ?_) (fun c1 => ?_)
  · replace h := h.1 c1
    exact r_vret (pc := 32) dX8_addName_32 rfl h
  · replace h := h.2 c1
    refine r_iload_n (pc := 4) (i := 1) dX8_addName_4 rfl rfl ?_
    refine r_bipush (pc := 5) (v := 8) dX8_addName_5 (by decide) ?_
    refine r_icmp_ge (pc := 7) (tgt := 32) dX8_addName_7 (by decide) (fun c2 => ?_) (fun c2 => ?_)
    · replace h := h.1 c2
      exact r_vret (pc := 32) dX8_addName_32 rfl h
    · replace h := h.2 c2
      refine r_aload_n (pc := 10) (i := 0) dX8_addName_10 rfl rfl ?_
      obtain ⟨k3, h⟩ := h
      obtain ⟨b4, hb4, h⟩ := h
      refine r_getr (pc := 11) flX8_9 dX8_addName_11 rfl k3 hb4 ?_
      refine r_iload_n (pc := 14) (i := 1) dX8_addName_14 rfl rfl ?_
      refine r_dup2 (pc := 15) dX8_addName_15 rfl rfl ?_
      obtain ⟨k5, h⟩ := h
      obtain ⟨i6, h⟩ := h
      refine r_iald (pc := 16) dX8_addName_16 k5 i6 ?_
      refine r_iconst (pc := 17) (v := 1) dX8_addName_17 (by decide) ?_
      refine r_iadd (pc := 18) dX8_addName_18 ?_
      refine r_iast (pc := 19) dX8_addName_19 k5 i6 ?_
      replace h := h _ rfl
      refine r_aload_n (pc := 20) (i := 0) dX8_addName_20 rfl rfl ?_
      refine r_dup (pc := 21) dX8_addName_21 rfl ?_
      refine r_geti (pc := 22) flX8_22 dX8_addName_22 (Or.inl rfl) k3 ?_
      refine r_iconst (pc := 25) (v := 1) dX8_addName_25 (by decide) ?_
      refine r_iload_n (pc := 26) (i := 1) dX8_addName_26 rfl rfl ?_
      refine r_ishl (pc := 27) dX8_addName_27 ?_
      refine r_ior (pc := 28) dX8_addName_28 ?_
      refine r_puti (pc := 29) flX8_22 dX8_addName_29 (Or.inl rfl) (fun q hq => by cases hq; rfl) k3 ?_
      replace h := h _ rfl
      exact r_vret (pc := 32) dX8_addName_32 rfl h
