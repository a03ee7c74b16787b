abbrev mJ0_coder_7d493 : MD := (yJ0_coder_7d493, cJ0_coder_7d493, 1, (some .byte))
theorem okJ0_coder_7d493 : MOK mJ0_coder_7d493 0 := ⟨ww_738, ww_18, ⟨by decide, by decide, by decide +kernel⟩, by decide⟩
theorem inJ0_coder_7d493 : Cond.instanceMethod mJ0_coder_7d493.1 ∈ lw_tbl := ww_736
theorem seJ0_coder_7d493 : Cond.selects mJ0_coder_7d493.1.cls mJ0_coder_7d493.1 mJ0_coder_7d493.1 ∈ lw_tbl := ww_737
theorem lkJ0_335 : LOK RJ0 335 mJ0_coder_7d493.1 := Or.inl ww_735
abbrev mJ0_isLatin1_aae02 : MD := (yJ0_isLatin1_aae02, cJ0_isLatin1_aae02, 1, (some .boolean))
theorem okJ0_isLatin1_aae02 : MOK mJ0_isLatin1_aae02 0 := ⟨ww_748, ww_18, ⟨by decide, by decide, by decide +kernel⟩, by decide⟩
theorem inJ0_isLatin1_aae02 : Cond.instanceMethod mJ0_isLatin1_aae02.1 ∈ lw_tbl := ww_746
theorem seJ0_isLatin1_aae02 : Cond.selects mJ0_isLatin1_aae02.1.cls mJ0_isLatin1_aae02.1 mJ0_isLatin1_aae02.1 ∈ lw_tbl := ww_747
theorem lkJ0_492 : LOK RJ0 492 mJ0_isLatin1_aae02.1 := Or.inl ww_745
abbrev mJ1_charAt_3b067 : MD := (yJ1_charAt_3b067, cJ1_charAt_3b067, 2, (some .char))
theorem okJ1_charAt_3b067 : MOK mJ1_charAt_3b067 2 := ⟨ww_751, ww_19, ⟨by decide, by decide, by decide +kernel⟩, by decide⟩
theorem stJ1_charAt_3b067 : Cond.static mJ1_charAt_3b067.1 ∈ lw_tbl := ww_750
theorem lkJ0_495 : LOK RJ0 495 mJ1_charAt_3b067.1 := Or.inl ww_749
abbrev mJ2_charAt_3b067 : MD := (yJ2_charAt_3b067, cJ2_charAt_3b067, 2, (some .char))
theorem okJ2_charAt_3b067 : MOK mJ2_charAt_3b067 2 := ⟨ww_762, ww_21, ⟨by decide, by decide, by decide +kernel⟩, by decide⟩
theorem stJ2_charAt_3b067 : Cond.static mJ2_charAt_3b067.1 ∈ lw_tbl := ww_761
theorem lkJ0_498 : LOK RJ0 498 mJ2_charAt_3b067.1 := Or.inl ww_760
abbrev mJ0_checkIndex_df160 : MD := (yJ0_checkIndex_df160, cJ0_checkIndex_df160, 2, none)
theorem okJ0_checkIndex_df160 : MOK mJ0_checkIndex_df160 2 := ⟨ww_754, ww_18, ⟨by decide, by decide, by decide +kernel⟩, by decide⟩
theorem stJ0_checkIndex_df160 : Cond.static mJ0_checkIndex_df160.1 ∈ lw_tbl := ww_753
abbrev mJ3_checkIndex_8e157 : MD := (yJ3_checkIndex_8e157, cJ3_checkIndex_8e157, 3, (some .int))
theorem okJ3_checkIndex_8e157 : MOK mJ3_checkIndex_8e157 3 := ⟨ww_759, ww_20, ⟨by decide, by decide, by decide +kernel⟩, by decide⟩
theorem stJ3_checkIndex_8e157 : Cond.static mJ3_checkIndex_8e157.1 ∈ lw_tbl := ww_758
theorem lkJ0_1059 : LOK RJ0 1059 mJ3_checkIndex_8e157.1 := Or.inl ww_757
theorem lkJ1_9 : LOK RJ1 9 mJ0_checkIndex_df160.1 := Or.inl ww_752
theorem dJ0_length_8abf5_0 : decode cJ0_length_8abf5 0 = .ok (.aload_n 0, 1) := by decide +kernel
theorem dJ0_length_8abf5_1 : decode cJ0_length_8abf5 1 = .ok (.getfield 9, 3) := by decide +kernel
theorem dJ0_length_8abf5_4 : decode cJ0_length_8abf5 4 = .ok (.arraylength, 1) := by decide +kernel
theorem dJ0_length_8abf5_5 : decode cJ0_length_8abf5 5 = .ok (.aload_n 0, 1) := by decide +kernel
theorem dJ0_length_8abf5_6 : decode cJ0_length_8abf5 6 = .ok (.invokevirtual 335, 3) := by decide +kernel
theorem dJ0_length_8abf5_9 : decode cJ0_length_8abf5 9 = .ok (.ishr, 1) := by decide +kernel
theorem dJ0_length_8abf5_10 : decode cJ0_length_8abf5 10 = .ok (.ireturn, 1) := by decide +kernel
theorem dJ0_charAt_5068e_0 : decode cJ0_charAt_5068e 0 = .ok (.aload_n 0, 1) := by decide +kernel
theorem dJ0_charAt_5068e_1 : decode cJ0_charAt_5068e 1 = .ok (.invokevirtual 492, 3) := by decide +kernel
theorem dJ0_charAt_5068e_4 : decode cJ0_charAt_5068e 4 = .ok (.ifCond .eq 12, 3) := by decide +kernel
theorem dJ0_charAt_5068e_7 : decode cJ0_charAt_5068e 7 = .ok (.aload_n 0, 1) := by decide +kernel
theorem dJ0_charAt_5068e_8 : decode cJ0_charAt_5068e 8 = .ok (.getfield 9, 3) := by decide +kernel
theorem dJ0_charAt_5068e_11 : decode cJ0_charAt_5068e 11 = .ok (.iload_n 1, 1) := by decide +kernel
theorem dJ0_charAt_5068e_12 : decode cJ0_charAt_5068e 12 = .ok (.invokestatic 495, 3) := by decide +kernel
theorem dJ0_charAt_5068e_15 : decode cJ0_charAt_5068e 15 = .ok (.ireturn, 1) := by decide +kernel
theorem dJ0_charAt_5068e_16 : decode cJ0_charAt_5068e 16 = .ok (.aload_n 0, 1) := by decide +kernel
theorem dJ0_charAt_5068e_17 : decode cJ0_charAt_5068e 17 = .ok (.getfield 9, 3) := by decide +kernel
theorem dJ0_charAt_5068e_20 : decode cJ0_charAt_5068e 20 = .ok (.iload_n 1, 1) := by decide +kernel
theorem dJ0_charAt_5068e_21 : decode cJ0_charAt_5068e 21 = .ok (.invokestatic 498, 3) := by decide +kernel
theorem dJ0_charAt_5068e_24 : decode cJ0_charAt_5068e 24 = .ok (.ireturn, 1) := by decide +kernel
theorem dJ0_coder_7d493_0 : decode cJ0_coder_7d493 0 = .ok (.getstatic 38, 3) := by decide +kernel
theorem dJ0_coder_7d493_3 : decode cJ0_coder_7d493 3 = .ok (.ifCond .eq 10, 3) := by decide +kernel
theorem dJ0_coder_7d493_6 : decode cJ0_coder_7d493 6 = .ok (.aload_n 0, 1) := by decide +kernel
theorem dJ0_coder_7d493_7 : decode cJ0_coder_7d493 7 = .ok (.getfield 15, 3) := by decide +kernel
theorem dJ0_coder_7d493_10 : decode cJ0_coder_7d493 10 = .ok (.goto 4, 3) := by decide +kernel
theorem dJ0_coder_7d493_13 : decode cJ0_coder_7d493 13 = .ok (.iconst 1, 1) := by decide +kernel
theorem dJ0_coder_7d493_14 : decode cJ0_coder_7d493 14 = .ok (.ireturn, 1) := by decide +kernel
theorem dJ0_isLatin1_aae02_0 : decode cJ0_isLatin1_aae02 0 = .ok (.getstatic 38, 3) := by decide +kernel
theorem dJ0_isLatin1_aae02_3 : decode cJ0_isLatin1_aae02 3 = .ok (.ifCond .eq 14, 3) := by decide +kernel
theorem dJ0_isLatin1_aae02_6 : decode cJ0_isLatin1_aae02 6 = .ok (.aload_n 0, 1) := by decide +kernel
theorem dJ0_isLatin1_aae02_7 : decode cJ0_isLatin1_aae02 7 = .ok (.getfield 15, 3) := by decide +kernel
theorem dJ0_isLatin1_aae02_10 : decode cJ0_isLatin1_aae02 10 = .ok (.ifCond .ne 7, 3) := by decide +kernel
theorem dJ0_isLatin1_aae02_13 : decode cJ0_isLatin1_aae02 13 = .ok (.iconst 1, 1) := by decide +kernel
theorem dJ0_isLatin1_aae02_14 : decode cJ0_isLatin1_aae02 14 = .ok (.goto 4, 3) := by decide +kernel
theorem dJ0_isLatin1_aae02_17 : decode cJ0_isLatin1_aae02 17 = .ok (.iconst 0, 1) := by decide +kernel
theorem dJ0_isLatin1_aae02_18 : decode cJ0_isLatin1_aae02 18 = .ok (.ireturn, 1) := by decide +kernel
theorem dJ0_checkIndex_df160_0 : decode cJ0_checkIndex_df160 0 = .ok (.iload_n 0, 1) := by decide +kernel
theorem dJ0_checkIndex_df160_1 : decode cJ0_checkIndex_df160 1 = .ok (.iload_n 1, 1) := by decide +kernel
theorem dJ0_checkIndex_df160_2 : decode cJ0_checkIndex_df160 2 = .ok (.getstatic 1053, 3) := by decide +kernel
theorem dJ0_checkIndex_df160_5 : decode cJ0_checkIndex_df160 5 = .ok (.invokestatic 1059, 3) := by decide +kernel
theorem dJ0_checkIndex_df160_8 : decode cJ0_checkIndex_df160 8 = .ok (.pop, 1) := by decide +kernel
theorem dJ0_checkIndex_df160_9 : decode cJ0_checkIndex_df160 9 = .ok (.return_, 1) := by decide +kernel
theorem dJ1_charAt_3b067_0 : decode cJ1_charAt_3b067 0 = .ok (.iload_n 1, 1) := by decide +kernel
theorem dJ1_charAt_3b067_1 : decode cJ1_charAt_3b067 1 = .ok (.aload_n 0, 1) := by decide +kernel
theorem dJ1_charAt_3b067_2 : decode cJ1_charAt_3b067 2 = .ok (.arraylength, 1) := by decide +kernel
theorem dJ1_charAt_3b067_3 : decode cJ1_charAt_3b067 3 = .ok (.invokestatic 9, 3) := by decide +kernel
theorem dJ1_charAt_3b067_6 : decode cJ1_charAt_3b067 6 = .ok (.aload_n 0, 1) := by decide +kernel
theorem dJ1_charAt_3b067_7 : decode cJ1_charAt_3b067 7 = .ok (.iload_n 1, 1) := by decide +kernel
theorem dJ1_charAt_3b067_8 : decode cJ1_charAt_3b067 8 = .ok (.baload, 1) := by decide +kernel
theorem dJ1_charAt_3b067_9 : decode cJ1_charAt_3b067 9 = .ok (.sipush 255, 3) := by decide +kernel
theorem dJ1_charAt_3b067_12 : decode cJ1_charAt_3b067 12 = .ok (.iand, 1) := by decide +kernel
theorem dJ1_charAt_3b067_13 : decode cJ1_charAt_3b067 13 = .ok (.i2c, 1) := by decide +kernel
theorem dJ1_charAt_3b067_14 : decode cJ1_charAt_3b067 14 = .ok (.ireturn, 1) := by decide +kernel
theorem dJ3_checkIndex_8e157_0 : decode cJ3_checkIndex_8e157 0 = .ok (.iload_n 0, 1) := by decide +kernel
theorem dJ3_checkIndex_8e157_1 : decode cJ3_checkIndex_8e157 1 = .ok (.ifCond .lt 8, 3) := by decide +kernel
theorem dJ3_checkIndex_8e157_4 : decode cJ3_checkIndex_8e157 4 = .ok (.iload_n 0, 1) := by decide +kernel
theorem dJ3_checkIndex_8e157_5 : decode cJ3_checkIndex_8e157 5 = .ok (.iload_n 1, 1) := by decide +kernel
theorem dJ3_checkIndex_8e157_6 : decode cJ3_checkIndex_8e157 6 = .ok (.if_icmp .lt 10, 3) := by decide +kernel
theorem dJ3_checkIndex_8e157_9 : decode cJ3_checkIndex_8e157 9 = .ok (.aload_n 2, 1) := by decide +kernel
theorem dJ3_checkIndex_8e157_10 : decode cJ3_checkIndex_8e157 10 = .ok (.iload_n 0, 1) := by decide +kernel
theorem dJ3_checkIndex_8e157_11 : decode cJ3_checkIndex_8e157 11 = .ok (.iload_n 1, 1) := by decide +kernel
theorem dJ3_checkIndex_8e157_12 : decode cJ3_checkIndex_8e157 12 = .ok (.invokestatic 95, 3) := by decide +kernel
theorem dJ3_checkIndex_8e157_15 : decode cJ3_checkIndex_8e157 15 = .ok (.athrow, 1) := by decide +kernel
theorem dJ3_checkIndex_8e157_16 : decode cJ3_checkIndex_8e157 16 = .ok (.iload_n 0, 1) := by decide +kernel
theorem dJ3_checkIndex_8e157_17 : decode cJ3_checkIndex_8e157 17 = .ok (.ireturn, 1) := by decide +kernel
section StrC
variable {G : GG} {M : Mem}
/-- the cell q is a text of n Latin letters: the bytes f -/
def StrIs (G : GG) (q n : Nat) (f : Nat → Int32) : Prop := va_O "java/lang/String" q (x_A G) (g_s G) (g_s G).heap ∧ va_OF "java/lang/String" "coder" "B" (.int 0) q (x_A G) (g_s G) (g_s G).heap ∧ ∃ v, va_OF "java/lang/String" "value" "[B" (.ref v) q (x_A G) (g_s G) (g_s G).heap ∧ va_T .byte v n (fun j => .int (f j)) (x_A G) (g_s G) (g_s G).heap
def StrEnv (G : GG) : Prop := va_Z "java/lang/String" "COMPACT_STRINGS" "Z" (.int 1) (x_A G) (g_s G) (g_s G).heap ∧ ∃ r : Option Nat, va_Z "jdk/internal/util/Preconditions" "SIOOBE_FORMATTER" "Ljava/util/function/BiFunction;" (va_rf r) (x_A G) (g_s G) (g_s G).heap
theorem k_coder (d : Nat) {q n : Nat} {f : Nat → Int32} (hE : StrEnv G) (hq : StrIs G q n f) : Call G (d + 1) 0 0 mJ0_coder_7d493 [.ref q] M (fun r M' => r = some (.int 0) ∧ M' = M) := by
  refine call_of (by decide) (Nat.le_of_ble_eq_true rfl) ?_
  show Wk G (d + 1) 0 0 mJ0_coder_7d493 0 [some (.ref q)] [] M _
  refine r_sgets (pc := 0) hE.1 ww_739 dJ0_coder_7d493_0 ?_
  refine r_if_eq (pc := 3) (tgt := 13) dJ0_coder_7d493_3 (by decide) (fun c => absurd c (by decide)) (fun c => ?_)
  refine r_aload_n (pc := 6) (i := 0) dJ0_coder_7d493_6 rfl rfl ?_
  refine r_sgetf (pc := 7) hq.2.1 ww_1917 dJ0_coder_7d493_7 ?_
  refine r_goto (pc := 10) (tgt := 14) dJ0_coder_7d493_10 (by decide) ?_
  exact r_nret (pc := 14) (ty := .byte) dJ0_coder_7d493_14 rfl rfl ⟨rfl, rfl⟩
theorem k_isLatin1 (d : Nat) {q n : Nat} {f : Nat → Int32} (hE : StrEnv G) (hq : StrIs G q n f) : Call G (d + 1) 0 0 mJ0_isLatin1_aae02 [.ref q] M (fun r M' => r = some (.int 1) ∧ M' = M) := by
  refine call_of (by decide) (Nat.le_of_ble_eq_true rfl) ?_
  show Wk G (d + 1) 0 0 mJ0_isLatin1_aae02 0 [some (.ref q)] [] M _
  refine r_sgets (pc := 0) hE.1 ww_739 dJ0_isLatin1_aae02_0 ?_
  refine r_if_eq (pc := 3) (tgt := 17) dJ0_isLatin1_aae02_3 (by decide) (fun c => absurd c (by decide)) (fun c => ?_)
  refine r_aload_n (pc := 6) (i := 0) dJ0_isLatin1_aae02_6 rfl rfl ?_
  refine r_sgetf (pc := 7) hq.2.1 ww_1917 dJ0_isLatin1_aae02_7 ?_
  refine r_if_ne (pc := 10) (tgt := 17) dJ0_isLatin1_aae02_10 (by decide) (fun c => absurd rfl c) (fun c => ?_)
  refine r_iconst (pc := 13) (v := 1) dJ0_isLatin1_aae02_13 (by decide) ?_
  refine r_goto (pc := 14) (tgt := 18) dJ0_isLatin1_aae02_14 (by decide) ?_
  exact r_zret (pc := 18) dJ0_isLatin1_aae02_18 rfl (Or.inr rfl) ⟨rfl, rfl⟩
theorem k_length (d : Nat) {q n : Nat} {f : Nat → Int32} (hE : StrEnv G) (hq : StrIs G q n f) : Call G (d + 2) 0 0 mJ0_length_8abf5 [.ref q] M (fun r M' => r = some (.int (nI n)) ∧ M' = M) := by
  refine call_of (by decide) (Nat.le_of_ble_eq_true rfl) ?_
  show Wk G (d + 2) 0 0 mJ0_length_8abf5 0 [some (.ref q)] [] M _
  obtain ⟨v, hv, hT⟩ := hq.2.2
  refine r_aload_n (pc := 0) (i := 0) dJ0_length_8abf5_0 rfl rfl ?_
  refine r_sgetf (pc := 1) hv ww_1916 dJ0_length_8abf5_1 ?_
  refine r_stlen (pc := 4) hT dJ0_length_8abf5_4 ?_
  refine r_aload_n (pc := 5) (i := 0) dJ0_length_8abf5_5 rfl rfl ?_
  refine r_callVo (pc := 6) (as := []) (st := [_]) okJ0_coder_7d493 lkJ0_335 inJ0_coder_7d493 seJ0_coder_7d493 dJ0_length_8abf5_6 rfl hq.1 (Nat.le_of_ble_eq_true rfl) (Nat.zero_le _) (Nat.zero_le _) (Call.mono (k_coder d hE hq) (fun r M' h => ?_))
  obtain ⟨rfl, rfl⟩ := h
  refine r_ishr (pc := 9) dJ0_length_8abf5_9 ?_
  refine r_iret (pc := 10) dJ0_length_8abf5_10 rfl ⟨?_, rfl⟩
  show some (Value.int (nI n >>> ((0 : Int32) &&& 31))) = _
  rw [show ((0 : Int32) &&& 31) = 0 by decide]
  congr 2
  apply Int32.toBitVec_inj.mp
  rw [Int32.toBitVec_shiftRight]
  simp
theorem k_checkP (d : Nat) (i n : Int32) (r : Option Nat) (h0 : ¬ i < 0) (h1 : i < n) : Call G (d + 1) 0 0 mJ3_checkIndex_8e157 [.int i, .int n, va_rf r] M (fun z M' => z = some (.int i) ∧ M' = M) := by
  refine call_of (by decide) (by cases r <;> exact Nat.le_of_ble_eq_true rfl) ?_
  have e : lvE 3 [.int i, .int n, va_rf r] = [some (.int i), some (.int n), some (va_rf r)] := by cases r <;> rfl
  show Wk G (d + 1) 0 0 mJ3_checkIndex_8e157 0 (lvE 3 [.int i, .int n, va_rf r]) [] M _
  rw [e]
  refine r_iload_n (pc := 0) (i := 0) dJ3_checkIndex_8e157_0 rfl rfl ?_
  refine r_if_lt (pc := 1) (tgt := 9) dJ3_checkIndex_8e157_1 (by decide) (fun c => absurd c h0) (fun c => ?_)
  refine r_iload_n (pc := 4) (i := 0) dJ3_checkIndex_8e157_4 rfl rfl ?_
  refine r_iload_n (pc := 5) (i := 1) dJ3_checkIndex_8e157_5 rfl rfl ?_
  refine r_icmp_lt (pc := 6) (tgt := 16) dJ3_checkIndex_8e157_6 (by decide) (fun c => ?_) (fun c => absurd h1 c)
  refine r_iload_n (pc := 16) (i := 0) dJ3_checkIndex_8e157_16 rfl rfl ?_
  exact r_iret (pc := 17) dJ3_checkIndex_8e157_17 rfl ⟨rfl, rfl⟩
theorem k_checkS (d : Nat) (hE : StrEnv G) (i n : Int32) (h0 : ¬ i < 0) (h1 : i < n) : Call G (d + 2) 0 0 mJ0_checkIndex_df160 [.int i, .int n] M (fun z M' => z = none ∧ M' = M) := by
  obtain ⟨r, hr⟩ := hE.2
  refine call_of (by decide) (Nat.le_of_ble_eq_true rfl) ?_
  show Wk G (d + 2) 0 0 mJ0_checkIndex_df160 0 [some (.int i), some (.int n)] [] M _
  refine r_iload_n (pc := 0) (i := 0) dJ0_checkIndex_df160_0 rfl rfl ?_
  refine r_iload_n (pc := 1) (i := 1) dJ0_checkIndex_df160_1 rfl rfl ?_
  refine r_sgets (pc := 2) hr ww_755 dJ0_checkIndex_df160_2 ?_
  refine r_callS (pc := 5) (as := [_, _, _]) (st := []) okJ3_checkIndex_8e157 lkJ0_1059 stJ3_checkIndex_8e157 dJ0_checkIndex_df160_5 rfl (Nat.le_of_ble_eq_true rfl) (Nat.zero_le _) (Nat.zero_le _) (Call.mono (k_checkP d i n r h0 h1) (fun z M' h => ?_))
  obtain ⟨rfl, rfl⟩ := h
  refine r_pop (pc := 8) dJ0_checkIndex_df160_8 rfl ?_
  exact r_vret (pc := 9) dJ0_checkIndex_df160_9 rfl ⟨rfl, rfl⟩
def chr (x : Int32) : Int32 := ((x &&& 255).toUInt32 % 65536).toInt32
theorem k_latAt (d : Nat) {t n : Nat} {f : Nat → Int32} (hE : StrEnv G) (hT : va_T .byte t n (fun j => .int (f j)) (x_A G) (g_s G) (g_s G).heap) (hn : n < 2 ^ 31) {i : Nat} (hi : i < n) : Call G (d + 3) 0 0 mJ1_charAt_3b067 [.ref t, .int (nI i)] M (fun z M' => z = some (.int (chr (f i))) ∧ M' = M) := by
  refine call_of (by decide) (Nat.le_of_ble_eq_true rfl) ?_
  show Wk G (d + 3) 0 0 mJ1_charAt_3b067 0 [some (.ref t), some (.int (nI i))] [] M _
  refine r_iload_n (pc := 0) (i := 1) dJ1_charAt_3b067_0 rfl rfl ?_
  refine r_aload_n (pc := 1) (i := 0) dJ1_charAt_3b067_1 rfl rfl ?_
  refine r_stlen (pc := 2) hT dJ1_charAt_3b067_2 ?_
  refine r_callS (pc := 3) (as := [_, _]) (st := []) okJ0_checkIndex_df160 lkJ1_9 stJ0_checkIndex_df160 dJ1_charAt_3b067_3 rfl (Nat.le_of_ble_eq_true rfl) (Nat.zero_le _) (Nat.zero_le _) (Call.mono (k_checkS d hE (nI i) (nI n) (nI_pos (by omega)) (nI_lt hi hn)) (fun z M' h => ?_))
  obtain ⟨rfl, rfl⟩ := h
  refine r_aload_n (pc := 6) (i := 0) dJ1_charAt_3b067_6 rfl rfl ?_
  refine r_iload_n (pc := 7) (i := 1) dJ1_charAt_3b067_7 rfl rfl ?_
  refine r_stb (pc := 8) hT (vp_in_nI hi hn) dJ1_charAt_3b067_8 ?_
  rw [nI_clamp (by omega)]
  refine r_sipush (pc := 9) (v := 255) dJ1_charAt_3b067_9 (by decide) ?_
  refine r_iand (pc := 12) dJ1_charAt_3b067_12 ?_
  refine r_i2c (pc := 13) dJ1_charAt_3b067_13 ?_
  exact r_nret (pc := 14) (ty := .char) dJ1_charAt_3b067_14 rfl (pk_nc _) ⟨rfl, rfl⟩
theorem k_charAt (d : Nat) {q n : Nat} {f : Nat → Int32} (hE : StrEnv G) (hq : StrIs G q n f) (hn : n < 2 ^ 31) {i : Nat} (hi : i < n) : Call G (d + 4) 0 0 mJ0_charAt_5068e [.ref q, .int (nI i)] M (fun z M' => z = some (.int (chr (f i))) ∧ M' = M) := by
  obtain ⟨v, hv, hT⟩ := hq.2.2
  refine call_of (by decide) (Nat.le_of_ble_eq_true rfl) ?_
  show Wk G (d + 4) 0 0 mJ0_charAt_5068e 0 [some (.ref q), some (.int (nI i))] [] M _
  refine r_aload_n (pc := 0) (i := 0) dJ0_charAt_5068e_0 rfl rfl ?_
  refine r_callVo (pc := 1) (as := []) (st := []) okJ0_isLatin1_aae02 lkJ0_492 inJ0_isLatin1_aae02 seJ0_isLatin1_aae02 dJ0_charAt_5068e_1 rfl hq.1 (Nat.le_of_ble_eq_true rfl) (Nat.zero_le _) (Nat.zero_le _) (Call.mono (k_isLatin1 (d + 2) hE hq) (fun z M' h => ?_))
  obtain ⟨rfl, rfl⟩ := h
  refine r_if_eq (pc := 4) (tgt := 16) dJ0_charAt_5068e_4 (by decide) (fun c => absurd c (by decide)) (fun c => ?_)
  refine r_aload_n (pc := 7) (i := 0) dJ0_charAt_5068e_7 rfl rfl ?_
  refine r_sgetf (pc := 8) hv ww_1916 dJ0_charAt_5068e_8 ?_
  refine r_iload_n (pc := 11) (i := 1) dJ0_charAt_5068e_11 rfl rfl ?_
  refine r_callS (pc := 12) (as := [_, _]) (st := []) okJ1_charAt_3b067 lkJ0_495 stJ1_charAt_3b067 dJ0_charAt_5068e_12 rfl (Nat.le_of_ble_eq_true rfl) (Nat.zero_le _) (Nat.zero_le _) (Call.mono (k_latAt d hE hT hn hi) (fun z M' h => ?_))
  obtain ⟨rfl, rfl⟩ := h
  exact r_nret (pc := 15) (ty := .char) dJ0_charAt_5068e_15 rfl (pk_nc _) ⟨rfl, rfl⟩
end StrC
