/-! EndlessRows$Tokens: decode rows and verification conditions, by program -/
theorem dX9_key_0 : decode cX9_key 0 = .ok (.aload_n 0, 1) := by decide +kernel
theorem dX9_key_1 : decode cX9_key 1 = .ok (.iload_n 1, 1) := by decide +kernel
theorem dX9_key_2 : decode cX9_key 2 = .ok (.iload_n 2, 1) := by decide +kernel
theorem dX9_key_3 : decode cX9_key 3 = .ok (.ldc 67, 2) := by decide +kernel
theorem dX9_key_5 : decode cX9_key 5 = .ok (.invokevirtual 69, 3) := by decide +kernel
theorem dX9_key_8 : decode cX9_key 8 = .ok (.ifCond .eq 5, 3) := by decide +kernel
theorem dX9_key_11 : decode cX9_key 11 = .ok (.iconst 5, 1) := by decide +kernel
theorem dX9_key_12 : decode cX9_key 12 = .ok (.ireturn, 1) := by decide +kernel
theorem dX9_key_13 : decode cX9_key 13 = .ok (.aload_n 0, 1) := by decide +kernel
theorem dX9_key_14 : decode cX9_key 14 = .ok (.iload_n 1, 1) := by decide +kernel
theorem dX9_key_15 : decode cX9_key 15 = .ok (.iload_n 2, 1) := by decide +kernel
theorem dX9_key_16 : decode cX9_key 16 = .ok (.ldc 73, 2) := by decide +kernel
theorem dX9_key_18 : decode cX9_key 18 = .ok (.invokevirtual 69, 3) := by decide +kernel
theorem dX9_key_21 : decode cX9_key 21 = .ok (.ifCond .eq 6, 3) := by decide +kernel
theorem dX9_key_24 : decode cX9_key 24 = .ok (.bipush 6, 2) := by decide +kernel
theorem dX9_key_26 : decode cX9_key 26 = .ok (.ireturn, 1) := by decide +kernel
theorem dX9_key_27 : decode cX9_key 27 = .ok (.aload_n 0, 1) := by decide +kernel
theorem dX9_key_28 : decode cX9_key 28 = .ok (.iload_n 1, 1) := by decide +kernel
theorem dX9_key_29 : decode cX9_key 29 = .ok (.iload_n 2, 1) := by decide +kernel
theorem dX9_key_30 : decode cX9_key 30 = .ok (.ldc 75, 2) := by decide +kernel
theorem dX9_key_32 : decode cX9_key 32 = .ok (.invokevirtual 69, 3) := by decide +kernel
theorem dX9_key_35 : decode cX9_key 35 = .ok (.ifCond .eq 6, 3) := by decide +kernel
theorem dX9_key_38 : decode cX9_key 38 = .ok (.bipush 7, 2) := by decide +kernel
theorem dX9_key_40 : decode cX9_key 40 = .ok (.ireturn, 1) := by decide +kernel
theorem dX9_key_41 : decode cX9_key 41 = .ok (.aload_n 0, 1) := by decide +kernel
theorem dX9_key_42 : decode cX9_key 42 = .ok (.iload_n 1, 1) := by decide +kernel
theorem dX9_key_43 : decode cX9_key 43 = .ok (.iload_n 2, 1) := by decide +kernel
theorem dX9_key_44 : decode cX9_key 44 = .ok (.ldc 77, 2) := by decide +kernel
theorem dX9_key_46 : decode cX9_key 46 = .ok (.invokevirtual 69, 3) := by decide +kernel
theorem dX9_key_49 : decode cX9_key 49 = .ok (.ifCond .eq 6, 3) := by decide +kernel
theorem dX9_key_52 : decode cX9_key 52 = .ok (.bipush 8, 2) := by decide +kernel
theorem dX9_key_54 : decode cX9_key 54 = .ok (.ireturn, 1) := by decide +kernel
theorem dX9_key_55 : decode cX9_key 55 = .ok (.aload_n 0, 1) := by decide +kernel
theorem dX9_key_56 : decode cX9_key 56 = .ok (.iload_n 1, 1) := by decide +kernel
theorem dX9_key_57 : decode cX9_key 57 = .ok (.iload_n 2, 1) := by decide +kernel
theorem dX9_key_58 : decode cX9_key 58 = .ok (.ldc 79, 2) := by decide +kernel
theorem dX9_key_60 : decode cX9_key 60 = .ok (.invokevirtual 69, 3) := by decide +kernel
theorem dX9_key_63 : decode cX9_key 63 = .ok (.ifCond .eq 6, 3) := by decide +kernel
theorem dX9_key_66 : decode cX9_key 66 = .ok (.bipush 9, 2) := by decide +kernel
theorem dX9_key_68 : decode cX9_key 68 = .ok (.ireturn, 1) := by decide +kernel
theorem dX9_key_69 : decode cX9_key 69 = .ok (.aload_n 0, 1) := by decide +kernel
theorem dX9_key_70 : decode cX9_key 70 = .ok (.iload_n 1, 1) := by decide +kernel
theorem dX9_key_71 : decode cX9_key 71 = .ok (.iload_n 2, 1) := by decide +kernel
theorem dX9_key_72 : decode cX9_key 72 = .ok (.ldc 81, 2) := by decide +kernel
theorem dX9_key_74 : decode cX9_key 74 = .ok (.invokevirtual 69, 3) := by decide +kernel
theorem dX9_key_77 : decode cX9_key 77 = .ok (.ifCond .eq 8, 3) := by decide +kernel
theorem dX9_key_80 : decode cX9_key 80 = .ok (.bipush 10, 2) := by decide +kernel
theorem dX9_key_82 : decode cX9_key 82 = .ok (.goto 4, 3) := by decide +kernel
theorem dX9_key_85 : decode cX9_key 85 = .ok (.iconst 1, 1) := by decide +kernel
theorem dX9_key_86 : decode cX9_key 86 = .ok (.ireturn, 1) := by decide +kernel
theorem dX9_isWord_0 : decode cX9_isWord 0 = .ok (.iload_n 2, 1) := by decide +kernel
theorem dX9_isWord_1 : decode cX9_isWord 1 = .ok (.iload_n 1, 1) := by decide +kernel
theorem dX9_isWord_2 : decode cX9_isWord 2 = .ok (.isub, 1) := by decide +kernel
theorem dX9_isWord_3 : decode cX9_isWord 3 = .ok (.aload_n 3, 1) := by decide +kernel
theorem dX9_isWord_4 : decode cX9_isWord 4 = .ok (.invokevirtual 83, 3) := by decide +kernel
theorem dX9_isWord_7 : decode cX9_isWord 7 = .ok (.if_icmp .eq 5, 3) := by decide +kernel
theorem dX9_isWord_10 : decode cX9_isWord 10 = .ok (.iconst 0, 1) := by decide +kernel
theorem dX9_isWord_11 : decode cX9_isWord 11 = .ok (.ireturn, 1) := by decide +kernel
theorem dX9_isWord_12 : decode cX9_isWord 12 = .ok (.iconst 0, 1) := by decide +kernel
theorem dX9_isWord_13 : decode cX9_isWord 13 = .ok (.istore 4, 2) := by decide +kernel
theorem dX9_isWord_15 : decode cX9_isWord 15 = .ok (.iload 4, 2) := by decide +kernel
theorem dX9_isWord_17 : decode cX9_isWord 17 = .ok (.aload_n 3, 1) := by decide +kernel
theorem dX9_isWord_18 : decode cX9_isWord 18 = .ok (.invokevirtual 83, 3) := by decide +kernel
theorem dX9_isWord_21 : decode cX9_isWord 21 = .ok (.if_icmp .ge 28, 3) := by decide +kernel
theorem dX9_isWord_24 : decode cX9_isWord 24 = .ok (.aload_n 0, 1) := by decide +kernel
theorem dX9_isWord_25 : decode cX9_isWord 25 = .ok (.iload_n 1, 1) := by decide +kernel
theorem dX9_isWord_26 : decode cX9_isWord 26 = .ok (.iload 4, 2) := by decide +kernel
theorem dX9_isWord_28 : decode cX9_isWord 28 = .ok (.iadd, 1) := by decide +kernel
theorem dX9_isWord_29 : decode cX9_isWord 29 = .ok (.invokevirtual 37, 3) := by decide +kernel
theorem dX9_isWord_32 : decode cX9_isWord 32 = .ok (.aload_n 3, 1) := by decide +kernel
theorem dX9_isWord_33 : decode cX9_isWord 33 = .ok (.iload 4, 2) := by decide +kernel
theorem dX9_isWord_35 : decode cX9_isWord 35 = .ok (.invokevirtual 88, 3) := by decide +kernel
theorem dX9_isWord_38 : decode cX9_isWord 38 = .ok (.if_icmp .eq 5, 3) := by decide +kernel
theorem dX9_isWord_41 : decode cX9_isWord 41 = .ok (.iconst 0, 1) := by decide +kernel
theorem dX9_isWord_42 : decode cX9_isWord 42 = .ok (.ireturn, 1) := by decide +kernel
theorem dX9_isWord_43 : decode cX9_isWord 43 = .ok (.iinc 4 1, 3) := by decide +kernel
theorem dX9_isWord_46 : decode cX9_isWord 46 = .ok (.goto (-31), 3) := by decide +kernel
theorem dX9_isWord_49 : decode cX9_isWord 49 = .ok (.iconst 1, 1) := by decide +kernel
theorem dX9_isWord_50 : decode cX9_isWord 50 = .ok (.ireturn, 1) := by decide +kernel
theorem eX9_key {G : GG} {d rc rs : Nat} (o : Nat) (a1 : Int32) (a2 : Int32)  {M : Mem} {Q : Option Value → Mem → Prop} (h : ∃ t1, vk_R "EndlessRows$Tokens" 67 "all" t1 (g_s G) ∧ (x_h M o).1 = 25 ∧ Call G d 0 0 mX9_isWord [.ref o, .int a1, .int a2, .ref t1] M (fun r3 M4 => ∃ v5 : Int32, r3 = some (.int v5) ∧ (v5 = 0 → ∃ t7, vk_R "EndlessRows$Tokens" 73 "is" t7 (g_s G) ∧ (x_h M4 o).1 = 25 ∧ Call G d 0 0 mX9_isWord [.ref o, .int a1, .int a2, .ref t7] M4 (fun r9 M10 => ∃ v11 : Int32, r9 = some (.int v11) ∧ (v11 = 0 → ∃ t13, vk_R "EndlessRows$Tokens" 75 "not" t13 (g_s G) ∧ (x_h M10 o).1 = 25 ∧ Call G d 0 0 mX9_isWord [.ref o, .int a1, .int a2, .ref t13] M10 (fun r15 M16 => ∃ v17 : Int32, r15 = some (.int v17) ∧ (v17 = 0 → ∃ t19, vk_R "EndlessRows$Tokens" 77 "and" t19 (g_s G) ∧ (x_h M16 o).1 = 25 ∧ Call G d 0 0 mX9_isWord [.ref o, .int a1, .int a2, .ref t19] M16 (fun r21 M22 => ∃ v23 : Int32, r21 = some (.int v23) ∧ (v23 = 0 → ∃ t25, vk_R "EndlessRows$Tokens" 79 "or" t25 (g_s G) ∧ (x_h M22 o).1 = 25 ∧ Call G d 0 0 mX9_isWord [.ref o, .int a1, .int a2, .ref t25] M22 (fun r27 M28 => ∃ v29 : Int32, r27 = some (.int v29) ∧ (v29 = 0 → ∃ t31, vk_R "EndlessRows$Tokens" 81 "so" t31 (g_s G) ∧ (x_h M28 o).1 = 25 ∧ Call G d 0 0 mX9_isWord [.ref o, .int a1, .int a2, .ref t31] M28 (fun r33 M34 => ∃ v35 : Int32, r33 = some (.int v35) ∧ (v35 = 0 → Q (some (.int 1)) M34) ∧ (¬ v35 = 0 → Q (some (.int 10)) M34))) ∧ (¬ v29 = 0 → Q (some (.int 9)) M28))) ∧ (¬ v23 = 0 → Q (some (.int 8)) M22))) ∧ (¬ v17 = 0 → Q (some (.int 7)) M16))) ∧ (¬ v11 = 0 → Q (some (.int 6)) M10))) ∧ (¬ v5 = 0 → Q (some (.int 5)) M4))) : Call G (d + 1) rc rs mX9_key [.ref o, .int a1, .int a2] M Q := by
  refine call_of (by decide) (Nat.le_of_ble_eq_true rfl) ?_
  show Wk G (d + 1) rc rs mX9_key 0 [some (.ref o), some (.int a1), some (.int a2)] [] M Q
  refine r_aload_n (pc := 0) (i := 0) dX9_key_0 rfl rfl ?_
  refine r_iload_n (pc := 1) (i := 1) dX9_key_1 rfl rfl ?_
  refine r_iload_n (pc := 2) (i := 2) dX9_key_2 rfl rfl ?_
  obtain ⟨t1, ht1, h⟩ := h
  refine r_ldcS (pc := 3) dX9_key_3 ht1 ?_
  obtain ⟨k2, h⟩ := h
  refine r_callV (pc := 5) (ci := 9) (as := [_, _, _]) (st := []) okX9_isWord lkX9_69 inX9_isWord seX9_isWord ⟨_, rfl, rfl⟩ dX9_key_5 rfl k2 (Nat.le_of_ble_eq_true rfl) (Nat.zero_le _) (Nat.zero_le _) (Call.mono h (fun r3 M4 h => ?_))
  obtain ⟨v5, rfl, h⟩ := h
  refine r_if_eq (pc := 8) (tgt := 13) dX9_key_8 (by decide) (fun c6 => ?_) (fun c6 => ?_)
  · replace h := h.1 c6
    refine r_aload_n (pc := 13) (i := 0) dX9_key_13 rfl rfl ?_
    refine r_iload_n (pc := 14) (i := 1) dX9_key_14 rfl rfl ?_
    refine r_iload_n (pc := 15) (i := 2) dX9_key_15 rfl rfl ?_
    obtain ⟨t7, ht7, h⟩ := h
    refine r_ldcS (pc := 16) dX9_key_16 ht7 ?_
    obtain ⟨k8, h⟩ := h
    refine r_callV (pc := 18) (ci := 9) (as := [_, _, _]) (st := []) okX9_isWord lkX9_69 inX9_isWord seX9_isWord ⟨_, rfl, rfl⟩ dX9_key_18 rfl k8 (Nat.le_of_ble_eq_true rfl) (Nat.zero_le _) (Nat.zero_le _) (Call.mono h (fun r9 M10 h => ?_))
    obtain ⟨v11, rfl, h⟩ := h
    refine r_if_eq (pc := 21) (tgt := 27) dX9_key_21 (by decide) (fun c12 => ?_) (fun c12 => ?_)
    · replace h := h.1 c12
      refine r_aload_n (pc := 27) (i := 0) dX9_key_27 rfl rfl ?_
      refine r_iload_n (pc := 28) (i := 1) dX9_key_28 rfl rfl ?_
      refine r_iload_n (pc := 29) (i := 2) dX9_key_29 rfl rfl ?_
      obtain ⟨t13, ht13, h⟩ := h
      refine r_ldcS (pc := 30) dX9_key_30 ht13 ?_
      obtain ⟨k14, h⟩ := h
      refine r_callV (pc := 32) (ci := 9) (as := [_, _, _]) (st := []) okX9_isWord lkX9_69 inX9_isWord seX9_isWord ⟨_, rfl, rfl⟩ dX9_key_32 rfl k14 (Nat.le_of_ble_eq_true rfl) (Nat.zero_le _) (Nat.zero_le _) (Call.mono h (fun r15 M16 h => ?_))
      obtain ⟨v17, rfl, h⟩ := h
      refine r_if_eq (pc := 35) (tgt := 41) dX9_key_35 (by decide) (fun c18 => ?_) (fun c18 => ?_)
      · replace h := h.1 c18
        refine r_aload_n (pc := 41) (i := 0) dX9_key_41 rfl rfl ?_
        refine r_iload_n (pc := 42) (i := 1) dX9_key_42 rfl rfl ?_
        refine r_iload_n (pc := 43) (i := 2) dX9_key_43 rfl rfl ?_
        obtain ⟨t19, ht19, h⟩ := h
        refine r_ldcS (pc := 44) dX9_key_44 ht19 ?_
        obtain ⟨k20, h⟩ := h
        refine r_callV (pc := 46) (ci := 9) (as := [_, _, _]) (st := []) okX9_isWord lkX9_69 inX9_isWord seX9_isWord ⟨_, rfl, rfl⟩ dX9_key_46 rfl k20 (Nat.le_of_ble_eq_true rfl) (Nat.zero_le _) (Nat.zero_le _) (Call.mono h (fun r21 M22 h => ?_))
        obtain ⟨v23, rfl, h⟩ := h
        refine r_if_eq (pc := 49) (tgt := 55) dX9_key_49 (by decide) (fun c24 => ?_) (fun c24 => ?_)
        · replace h := h.1 c24
          refine r_aload_n (pc := 55) (i := 0) dX9_key_55 rfl rfl ?_
          refine r_iload_n (pc := 56) (i := 1) dX9_key_56 rfl rfl ?_
          refine r_iload_n (pc := 57) (i := 2) dX9_key_57 rfl rfl ?_
          obtain ⟨t25, ht25, h⟩ := h
          refine r_ldcS (pc := 58) dX9_key_58 ht25 ?_
          obtain ⟨k26, h⟩ := h
          refine r_callV (pc := 60) (ci := 9) (as := [_, _, _]) (st := []) okX9_isWord lkX9_69 inX9_isWord seX9_isWord ⟨_, rfl, rfl⟩ dX9_key_60 rfl k26 (Nat.le_of_ble_eq_true rfl) (Nat.zero_le _) (Nat.zero_le _) (Call.mono h (fun r27 M28 h => ?_))
          obtain ⟨v29, rfl, h⟩ := h
          refine r_if_eq (pc := 63) (tgt := 69) dX9_key_63 (by decide) (fun c30 => ?_) (fun c30 => ?_)
          · replace h := h.1 c30
            refine r_aload_n (pc := 69) (i := 0) dX9_key_69 rfl rfl ?_
            refine r_iload_n (pc := 70) (i := 1) dX9_key_70 rfl rfl ?_
            refine r_iload_n (pc := 71) (i := 2) dX9_key_71 rfl rfl ?_
            obtain ⟨t31, ht31, h⟩ := h
            refine r_ldcS (pc := 72) dX9_key_72 ht31 ?_
            obtain ⟨k32, h⟩ := h
            refine r_callV (pc := 74) (ci := 9) (as := [_, _, _]) (st := []) okX9_isWord lkX9_69 inX9_isWord seX9_isWord ⟨_, rfl, rfl⟩ dX9_key_74 rfl k32 (Nat.le_of_ble_eq_true rfl) (Nat.zero_le _) (Nat.zero_le _) (Call.mono h (fun r33 M34 h => ?_))
            obtain ⟨v35, rfl, h⟩ := h
            refine r_if_eq (pc := 77) (tgt := 85) dX9_key_77 (by decide) (fun c36 => ?_) (fun c36 => ?_)
            · replace h := h.1 c36
              refine r_iconst (pc := 85) (v := 1) dX9_key_85 (by decide) ?_
              exact r_iret (pc := 86) dX9_key_86 rfl h
            · replace h := h.2 c36
              refine r_bipush (pc := 80) (v := 10) dX9_key_80 (by decide) ?_
              refine r_goto (pc := 82) (tgt := 86) dX9_key_82 (by decide) ?_
              exact r_iret (pc := 86) dX9_key_86 rfl h
          · replace h := h.2 c30
            refine r_bipush (pc := 66) (v := 9) dX9_key_66 (by decide) ?_
            exact r_iret (pc := 68) dX9_key_68 rfl h
        · replace h := h.2 c24
          refine r_bipush (pc := 52) (v := 8) dX9_key_52 (by decide) ?_
          exact r_iret (pc := 54) dX9_key_54 rfl h
      · replace h := h.2 c18
        refine r_bipush (pc := 38) (v := 7) dX9_key_38 (by decide) ?_
        exact r_iret (pc := 40) dX9_key_40 rfl h
    · replace h := h.2 c12
      refine r_bipush (pc := 24) (v := 6) dX9_key_24 (by decide) ?_
      exact r_iret (pc := 26) dX9_key_26 rfl h
  · replace h := h.2 c6
    refine r_iconst (pc := 11) (v := 5) dX9_key_11 (by decide) ?_
    exact r_iret (pc := 12) dX9_key_12 rfl h
abbrev LX9_isWord_15 (G : GG) (d rc rs : Nat) (p0 : Nat) (x1 : Int32) (x2 : Int32) (p3 : Nat) (x4 : Int32) (M : Mem) (Q : Option Value → Mem → Prop) : Prop := Wk G (d + 1) rc rs mX9_isWord 15 [some (.ref p0), some (.int x1), some (.int x2), some (.ref p3), some (.int x4)] [] M Q
theorem eX9_isWord {G : GG} {d rc rs : Nat} (o : Nat) (a1 : Int32) (a2 : Int32) (a3 : Nat)  {M : Mem} {Q : Option Value → Mem → Prop} (h : va_O "java/lang/String" a3 (x_A G) (g_s G) (g_s G).heap ∧ Call G d 0 0 mJ0_length_8abf5 [.ref a3] M (fun r2 M3 => ∃ v4 : Int32, r2 = some (.int v4) ∧ ((a2 - a1) = v4 → LX9_isWord_15 G d rc rs o a1 a2 a3 0 M3 Q) ∧ (¬ (a2 - a1) = v4 → Q (some (.int 0)) M3))) : Call G (d + 1) rc rs mX9_isWord [.ref o, .int a1, .int a2, .ref a3] M Q := by
  refine call_of (by decide) (Nat.le_of_ble_eq_true rfl) ?_
  show Wk G (d + 1) rc rs mX9_isWord 0 [some (.ref o), some (.int a1), some (.int a2), some (.ref a3), none] [] M Q
  refine r_iload_n (pc := 0) (i := 2) dX9_isWord_0 rfl rfl ?_
  refine r_iload_n (pc := 1) (i := 1) dX9_isWord_1 rfl rfl ?_
  refine r_isub (pc := 2) dX9_isWord_2 ?_
  refine r_aload_n (pc := 3) (i := 3) dX9_isWord_3 rfl rfl ?_
  obtain ⟨k1, h⟩ := h
  refine r_callVo (pc := 4) (as := []) (st := [_]) okJ0_length_8abf5 lkX9_83 inJ0_length_8abf5 seJ0_length_8abf5 dX9_isWord_4 rfl k1 (Nat.le_of_ble_eq_true rfl) (Nat.zero_le _) (Nat.zero_le _) (Call.mono h (fun r2 M3 h => ?_))
  obtain ⟨v4, rfl, h⟩ := h
  refine r_icmp_eq (pc := 7) (tgt := 12) dX9_isWord_7 (by decide) (fun c5 => ?_) (fun c5 => ?_)
  · replace h := h.1 c5
    refine r_iconst (pc := 12) (v := 0) dX9_isWord_12 (by decide) ?_
    refine r_istore (pc := 13) (i := 4) dX9_isWord_13 rfl (Nat.le_of_ble_eq_true rfl) ?_
    exact h
  · replace h := h.2 c5
    refine r_iconst (pc := 10) (v := 0) dX9_isWord_10 (by decide) ?_
    exact r_zret (pc := 11) dX9_isWord_11 rfl (Or.inl rfl) h
theorem vX9_isWord_15 {G : GG} {d rc rs : Nat} (p0 : Nat) (x1 : Int32) (x2 : Int32) (p3 : Nat) (x4 : Int32)  {M : Mem} {Q : Option Value → Mem → Prop} (h : va_O "java/lang/String" p3 (x_A G) (g_s G) (g_s G).heap ∧ Call G d 0 0 mJ0_length_8abf5 [.ref p3] M (fun r2 M3 => ∃ v4 : Int32, r2 = some (.int v4) ∧ (v4 ≤ x4 → Q (some (.int 1)) M3) ∧ (¬ v4 ≤ x4 → (x_h M3 p0).1 = 25 ∧ Call G d 0 0 mX9_byteAt [.ref p0, .int (x1 + x4)] M3 (fun r7 M8 => ∃ v9 : Int32, r7 = some (.int v9) ∧ va_O "java/lang/String" p3 (x_A G) (g_s G) (g_s G).heap ∧ Call G d 0 0 mJ0_charAt_5068e [.ref p3, .int x4] M8 (fun r11 M12 => ∃ v13 : Int32, r11 = some (.int v13) ∧ (v9 = v13 → LX9_isWord_15 G d rc rs p0 x1 x2 p3 (x4 + 1) M12 Q) ∧ (¬ v9 = v13 → Q (some (.int 0)) M12)))))) : LX9_isWord_15 G d rc rs p0 x1 x2 p3 x4 M Q := by
  show Wk G (d + 1) rc rs mX9_isWord 15 _ _ M Q
  refine r_iload (pc := 15) (i := 4) dX9_isWord_15 rfl ?_
  refine r_aload_n (pc := 17) (i := 3) dX9_isWord_17 rfl rfl ?_
  obtain ⟨k1, h⟩ := h
  refine r_callVo (pc := 18) (as := []) (st := [_]) okJ0_length_8abf5 lkX9_83 inJ0_length_8abf5 seJ0_length_8abf5 dX9_isWord_18 rfl k1 (Nat.le_of_ble_eq_true rfl) (Nat.zero_le _) (Nat.zero_le _) (Call.mono h (fun r2 M3 h => ?_))
  obtain ⟨v4, rfl, h⟩ := h
  refine r_icmp_ge (pc := 21) (tgt := 49) dX9_isWord_21 (by decide) (fun c5 => ?_) (fun c5 => ?_)
  · replace h := h.1 c5
    refine r_iconst (pc := 49) (v := 1) dX9_isWord_49 (by decide) ?_
    exact r_zret (pc := 50) dX9_isWord_50 rfl (Or.inr rfl) h
  · replace h := h.2 c5
    refine r_aload_n (pc := 24) (i := 0) dX9_isWord_24 rfl rfl ?_
    refine r_iload_n (pc := 25) (i := 1) dX9_isWord_25 rfl rfl ?_
    refine r_iload (pc := 26) (i := 4) dX9_isWord_26 rfl ?_
    refine r_iadd (pc := 28) dX9_isWord_28 ?_
    obtain ⟨k6, h⟩ := h
    refine r_callV (pc := 29) (ci := 9) (as := [_]) (st := []) okX9_byteAt lkX9_37 inX9_byteAt seX9_byteAt ⟨_, rfl, rfl⟩ dX9_isWord_29 rfl k6 (Nat.le_of_ble_eq_true rfl) (Nat.zero_le _) (Nat.zero_le _) (Call.mono h (fun r7 M8 h => ?_))
    obtain ⟨v9, rfl, h⟩ := h
    refine r_aload_n (pc := 32) (i := 3) dX9_isWord_32 rfl rfl ?_
    refine r_iload (pc := 33) (i := 4) dX9_isWord_33 rfl ?_
    obtain ⟨k10, h⟩ := h
    refine r_callVo (pc := 35) (as := [_]) (st := [_]) okJ0_charAt_5068e lkX9_88 inJ0_charAt_5068e seJ0_charAt_5068e dX9_isWord_35 rfl k10 (Nat.le_of_ble_eq_true rfl) (Nat.zero_le _) (Nat.zero_le _) (Call.mono h (fun r11 M12 h => ?_))
    obtain ⟨v13, rfl, h⟩ := h
    refine r_icmp_eq (pc := 38) (tgt := 43) dX9_isWord_38 (by decide) (fun c14 => ?_) (fun c14 => ?_)
    · replace h := h.1 c14
      refine r_iinc (pc := 43) (i := 4) (v := _ + 1) dX9_isWord_43 rfl rfl rfl ?_
      refine r_goto (pc := 46) (tgt := 15) dX9_isWord_46 (by decide) ?_
      exact h
    · replace h := h.2 c14
      refine r_iconst (pc := 41) (v := 0) dX9_isWord_41 (by decide) ?_
      exact r_zret (pc := 42) dX9_isWord_42 rfl (Or.inl rfl) h
