/-! java/util/Arrays: decode rows and verification conditions, by program -/
theorem dJ7_fill_d0a16_0 : decode cJ7_fill_d0a16 0 = .ok (.iconst 0, 1) := by decide +kernel
theorem dJ7_fill_d0a16_1 : decode cJ7_fill_d0a16 1 = .ok (.istore_n 3, 1) := by decide +kernel
theorem dJ7_fill_d0a16_2 : decode cJ7_fill_d0a16 2 = .ok (.aload_n 0, 1) := by decide +kernel
theorem dJ7_fill_d0a16_3 : decode cJ7_fill_d0a16 3 = .ok (.arraylength, 1) := by decide +kernel
theorem dJ7_fill_d0a16_4 : decode cJ7_fill_d0a16 4 = .ok (.istore 4, 2) := by decide +kernel
theorem dJ7_fill_d0a16_6 : decode cJ7_fill_d0a16 6 = .ok (.iload_n 3, 1) := by decide +kernel
theorem dJ7_fill_d0a16_7 : decode cJ7_fill_d0a16 7 = .ok (.iload 4, 2) := by decide +kernel
theorem dJ7_fill_d0a16_9 : decode cJ7_fill_d0a16 9 = .ok (.if_icmp .ge 13, 3) := by decide +kernel
theorem dJ7_fill_d0a16_12 : decode cJ7_fill_d0a16 12 = .ok (.aload_n 0, 1) := by decide +kernel
theorem dJ7_fill_d0a16_13 : decode cJ7_fill_d0a16 13 = .ok (.iload_n 3, 1) := by decide +kernel
theorem dJ7_fill_d0a16_14 : decode cJ7_fill_d0a16 14 = .ok (.lload_n 1, 1) := by decide +kernel
theorem dJ7_fill_d0a16_15 : decode cJ7_fill_d0a16 15 = .ok (.lastore, 1) := by decide +kernel
theorem dJ7_fill_d0a16_16 : decode cJ7_fill_d0a16 16 = .ok (.iinc 3 1, 3) := by decide +kernel
theorem dJ7_fill_d0a16_19 : decode cJ7_fill_d0a16 19 = .ok (.goto (-13), 3) := by decide +kernel
theorem dJ7_fill_d0a16_22 : decode cJ7_fill_d0a16 22 = .ok (.return_, 1) := by decide +kernel
theorem dJ7_fill_53178_0 : decode cJ7_fill_53178 0 = .ok (.iconst 0, 1) := by decide +kernel
theorem dJ7_fill_53178_1 : decode cJ7_fill_53178 1 = .ok (.istore_n 2, 1) := by decide +kernel
theorem dJ7_fill_53178_2 : decode cJ7_fill_53178 2 = .ok (.aload_n 0, 1) := by decide +kernel
theorem dJ7_fill_53178_3 : decode cJ7_fill_53178 3 = .ok (.arraylength, 1) := by decide +kernel
theorem dJ7_fill_53178_4 : decode cJ7_fill_53178 4 = .ok (.istore_n 3, 1) := by decide +kernel
theorem dJ7_fill_53178_5 : decode cJ7_fill_53178 5 = .ok (.iload_n 2, 1) := by decide +kernel
theorem dJ7_fill_53178_6 : decode cJ7_fill_53178 6 = .ok (.iload_n 3, 1) := by decide +kernel
theorem dJ7_fill_53178_7 : decode cJ7_fill_53178 7 = .ok (.if_icmp .ge 13, 3) := by decide +kernel
theorem dJ7_fill_53178_10 : decode cJ7_fill_53178 10 = .ok (.aload_n 0, 1) := by decide +kernel
theorem dJ7_fill_53178_11 : decode cJ7_fill_53178 11 = .ok (.iload_n 2, 1) := by decide +kernel
theorem dJ7_fill_53178_12 : decode cJ7_fill_53178 12 = .ok (.iload_n 1, 1) := by decide +kernel
theorem dJ7_fill_53178_13 : decode cJ7_fill_53178 13 = .ok (.iastore, 1) := by decide +kernel
theorem dJ7_fill_53178_14 : decode cJ7_fill_53178 14 = .ok (.iinc 2 1, 3) := by decide +kernel
theorem dJ7_fill_53178_17 : decode cJ7_fill_53178 17 = .ok (.goto (-12), 3) := by decide +kernel
theorem dJ7_fill_53178_20 : decode cJ7_fill_53178 20 = .ok (.return_, 1) := by decide +kernel
theorem dJ7_fill_fda19_0 : decode cJ7_fill_fda19 0 = .ok (.aload_n 0, 1) := by decide +kernel
theorem dJ7_fill_fda19_1 : decode cJ7_fill_fda19 1 = .ok (.arraylength, 1) := by decide +kernel
theorem dJ7_fill_fda19_2 : decode cJ7_fill_fda19 2 = .ok (.iload_n 1, 1) := by decide +kernel
theorem dJ7_fill_fda19_3 : decode cJ7_fill_fda19 3 = .ok (.iload_n 2, 1) := by decide +kernel
theorem dJ7_fill_fda19_4 : decode cJ7_fill_fda19 4 = .ok (.invokestatic 13, 3) := by decide +kernel
theorem dJ7_fill_fda19_7 : decode cJ7_fill_fda19 7 = .ok (.iload_n 1, 1) := by decide +kernel
theorem dJ7_fill_fda19_8 : decode cJ7_fill_fda19 8 = .ok (.istore 4, 2) := by decide +kernel
theorem dJ7_fill_fda19_10 : decode cJ7_fill_fda19 10 = .ok (.iload 4, 2) := by decide +kernel
theorem dJ7_fill_fda19_12 : decode cJ7_fill_fda19 12 = .ok (.iload_n 2, 1) := by decide +kernel
theorem dJ7_fill_fda19_13 : decode cJ7_fill_fda19 13 = .ok (.if_icmp .ge 14, 3) := by decide +kernel
theorem dJ7_fill_fda19_16 : decode cJ7_fill_fda19 16 = .ok (.aload_n 0, 1) := by decide +kernel
theorem dJ7_fill_fda19_17 : decode cJ7_fill_fda19 17 = .ok (.iload 4, 2) := by decide +kernel
theorem dJ7_fill_fda19_19 : decode cJ7_fill_fda19 19 = .ok (.iload_n 3, 1) := by decide +kernel
theorem dJ7_fill_fda19_20 : decode cJ7_fill_fda19 20 = .ok (.iastore, 1) := by decide +kernel
theorem dJ7_fill_fda19_21 : decode cJ7_fill_fda19 21 = .ok (.iinc 4 1, 3) := by decide +kernel
theorem dJ7_fill_fda19_24 : decode cJ7_fill_fda19 24 = .ok (.goto (-14), 3) := by decide +kernel
theorem dJ7_fill_fda19_27 : decode cJ7_fill_fda19 27 = .ok (.return_, 1) := by decide +kernel
abbrev LJ7_fill_d0a16_6 (G : GG) (d rc rs : Nat) (p0 : Nat) (l1 : Int64) (x3 : Int32) (x4 : Int32) (M : Mem) (Q : Option Value → Mem → Prop) : Prop := Wk G (d + 1) rc rs mJ7_fill_d0a16 6 [some (.ref p0), some (.long l1), none, some (.int x3), some (.int x4)] [] M Q
theorem eJ7_fill_d0a16 {G : GG} {d rc rs : Nat} (a1 : Nat) (a2 : Int64)  {M : Mem} {Q : Option Value → Mem → Prop} (h : (1 ≤ (x_h M a1).1 ∧ (x_h M a1).1 < 8) ∧ LJ7_fill_d0a16_6 G d rc rs a1 a2 0 (nI (x_h M a1).2) M Q) : Call G (d + 1) rc rs mJ7_fill_d0a16 [.ref a1, .long a2] M Q := by
  refine call_of (by decide) (Nat.le_of_ble_eq_true rfl) ?_
  show Wk G (d + 1) rc rs mJ7_fill_d0a16 0 [some (.ref a1), some (.long a2), none, none, none] [] M Q
  refine r_iconst (pc := 0) (v := 0) dJ7_fill_d0a16_0 (by decide) ?_
  refine r_istore_n (pc := 1) (i := 3) dJ7_fill_d0a16_1 rfl rfl (Nat.le_of_ble_eq_true rfl) ?_
  refine r_aload_n (pc := 2) (i := 0) dJ7_fill_d0a16_2 rfl rfl ?_
  obtain ⟨k1, h⟩ := h
  refine r_alen (pc := 3) dJ7_fill_d0a16_3 rfl k1 ?_
  refine r_istore (pc := 4) (i := 4) dJ7_fill_d0a16_4 rfl (Nat.le_of_ble_eq_true rfl) ?_
  exact h
theorem vJ7_fill_d0a16_6 {G : GG} {d rc rs : Nat} (p0 : Nat) (l1 : Int64) (x3 : Int32) (x4 : Int32)  {M : Mem} {Q : Option Value → Mem → Prop} (h : (x4 ≤ x3 → Q none M) ∧ (¬ x4 ≤ x3 → (x_h M p0).1 = 2 ∧ vp_in x3 (x_h M p0).2 ∧ (∀ M4, M4 = x_sl M p0 x3.toNatClampNeg l1 → LJ7_fill_d0a16_6 G d rc rs p0 l1 (x3 + 1) x4 M4 Q))) : LJ7_fill_d0a16_6 G d rc rs p0 l1 x3 x4 M Q := by
  show Wk G (d + 1) rc rs mJ7_fill_d0a16 6 _ _ M Q
  refine r_iload_n (pc := 6) (i := 3) dJ7_fill_d0a16_6 rfl rfl ?_
  refine r_iload (pc := 7) (i := 4) dJ7_fill_d0a16_7 rfl ?_
  refine r_icmp_ge (pc := 9) (tgt := 22) dJ7_fill_d0a16_9 (by decide) (fun c1 => ?_) (fun c1 => ?_)
  · replace h := h.1 c1
    exact r_vret (pc := 22) dJ7_fill_d0a16_22 rfl h
  · replace h := h.2 c1
    refine r_aload_n (pc := 12) (i := 0) dJ7_fill_d0a16_12 rfl rfl ?_
    refine r_iload_n (pc := 13) (i := 3) dJ7_fill_d0a16_13 rfl rfl ?_
    refine r_lload_n (pc := 14) (i := 1) dJ7_fill_d0a16_14 rfl rfl ?_
    obtain ⟨k2, h⟩ := h
    obtain ⟨i3, h⟩ := h
    refine r_last (pc := 15) dJ7_fill_d0a16_15 k2 i3 ?_
    replace h := h _ rfl
    refine r_iinc (pc := 16) (i := 3) (v := _ + 1) dJ7_fill_d0a16_16 rfl rfl rfl ?_
    refine r_goto (pc := 19) (tgt := 6) dJ7_fill_d0a16_19 (by decide) ?_
    exact h
abbrev LJ7_fill_53178_5 (G : GG) (d rc rs : Nat) (p0 : Nat) (x1 : Int32) (x2 : Int32) (x3 : Int32) (M : Mem) (Q : Option Value → Mem → Prop) : Prop := Wk G (d + 1) rc rs mJ7_fill_53178 5 [some (.ref p0), some (.int x1), some (.int x2), some (.int x3)] [] M Q
theorem eJ7_fill_53178 {G : GG} {d rc rs : Nat} (a1 : Nat) (a2 : Int32)  {M : Mem} {Q : Option Value → Mem → Prop} (h : (1 ≤ (x_h M a1).1 ∧ (x_h M a1).1 < 8) ∧ LJ7_fill_53178_5 G d rc rs a1 a2 0 (nI (x_h M a1).2) M Q) : Call G (d + 1) rc rs mJ7_fill_53178 [.ref a1, .int a2] M Q := by
  refine call_of (by decide) (Nat.le_of_ble_eq_true rfl) ?_
  show Wk G (d + 1) rc rs mJ7_fill_53178 0 [some (.ref a1), some (.int a2), none, none] [] M Q
  refine r_iconst (pc := 0) (v := 0) dJ7_fill_53178_0 (by decide) ?_
  refine r_istore_n (pc := 1) (i := 2) dJ7_fill_53178_1 rfl rfl (Nat.le_of_ble_eq_true rfl) ?_
  refine r_aload_n (pc := 2) (i := 0) dJ7_fill_53178_2 rfl rfl ?_
  obtain ⟨k1, h⟩ := h
  refine r_alen (pc := 3) dJ7_fill_53178_3 rfl k1 ?_
  refine r_istore_n (pc := 4) (i := 3) dJ7_fill_53178_4 rfl rfl (Nat.le_of_ble_eq_true rfl) ?_
  exact h
theorem vJ7_fill_53178_5 {G : GG} {d rc rs : Nat} (p0 : Nat) (x1 : Int32) (x2 : Int32) (x3 : Int32)  {M : Mem} {Q : Option Value → Mem → Prop} (h : (x3 ≤ x2 → Q none M) ∧ (¬ x3 ≤ x2 → (x_h M p0).1 = 1 ∧ vp_in x2 (x_h M p0).2 ∧ (∀ M4, M4 = x_si M p0 x2.toNatClampNeg x1 → LJ7_fill_53178_5 G d rc rs p0 x1 (x2 + 1) x3 M4 Q))) : LJ7_fill_53178_5 G d rc rs p0 x1 x2 x3 M Q := by
  show Wk G (d + 1) rc rs mJ7_fill_53178 5 _ _ M Q
  refine r_iload_n (pc := 5) (i := 2) dJ7_fill_53178_5 rfl rfl ?_
  refine r_iload_n (pc := 6) (i := 3) dJ7_fill_53178_6 rfl rfl ?_
  refine r_icmp_ge (pc := 7) (tgt := 20) dJ7_fill_53178_7 (by decide) (fun c1 => ?_) (fun c1 => ?_)
  · replace h := h.1 c1
    exact r_vret (pc := 20) dJ7_fill_53178_20 rfl h
  · replace h := h.2 c1
    refine r_aload_n (pc := 10) (i := 0) dJ7_fill_53178_10 rfl rfl ?_
    refine r_iload_n (pc := 11) (i := 2) dJ7_fill_53178_11 rfl rfl ?_
    refine r_iload_n (pc := 12) (i := 1) dJ7_fill_53178_12 rfl rfl ?_
    obtain ⟨k2, h⟩ := h
    obtain ⟨i3, h⟩ := h
    refine r_iast (pc := 13) dJ7_fill_53178_13 k2 i3 ?_
    replace h := h _ rfl
    refine r_iinc (pc := 14) (i := 2) (v := _ + 1) dJ7_fill_53178_14 rfl rfl rfl ?_
    refine r_goto (pc := 17) (tgt := 5) dJ7_fill_53178_17 (by decide) ?_
    exact h
abbrev LJ7_fill_fda19_10 (G : GG) (d rc rs : Nat) (p0 : Nat) (x1 : Int32) (x2 : Int32) (x3 : Int32) (x4 : Int32) (M : Mem) (Q : Option Value → Mem → Prop) : Prop := Wk G (d + 1) rc rs mJ7_fill_fda19 10 [some (.ref p0), some (.int x1), some (.int x2), some (.int x3), some (.int x4)] [] M Q
theorem eJ7_fill_fda19 {G : GG} {d rc rs : Nat} (a1 : Nat) (a2 : Int32) (a3 : Int32) (a4 : Int32)  {M : Mem} {Q : Option Value → Mem → Prop} (h : (1 ≤ (x_h M a1).1 ∧ (x_h M a1).1 < 8) ∧ Call G d 0 0 mJ7_rangeCheck_23922 [.int (nI (x_h M a1).2), .int a2, .int a3] M (fun r2 M3 => r2 = none ∧ LJ7_fill_fda19_10 G d rc rs a1 a2 a3 a4 a2 M3 Q)) : Call G (d + 1) rc rs mJ7_fill_fda19 [.ref a1, .int a2, .int a3, .int a4] M Q := by
  refine call_of (by decide) (Nat.le_of_ble_eq_true rfl) ?_
  show Wk G (d + 1) rc rs mJ7_fill_fda19 0 [some (.ref a1), some (.int a2), some (.int a3), some (.int a4), none] [] M Q
  refine r_aload_n (pc := 0) (i := 0) dJ7_fill_fda19_0 rfl rfl ?_
  obtain ⟨k1, h⟩ := h
  refine r_alen (pc := 1) dJ7_fill_fda19_1 rfl k1 ?_
  refine r_iload_n (pc := 2) (i := 1) dJ7_fill_fda19_2 rfl rfl ?_
  refine r_iload_n (pc := 3) (i := 2) dJ7_fill_fda19_3 rfl rfl ?_
  refine r_callS (pc := 4) (as := [_, _, _]) (st := []) okJ7_rangeCheck_23922 lkJ7_13 stJ7_rangeCheck_23922 dJ7_fill_fda19_4 rfl (Nat.le_of_ble_eq_true rfl) (Nat.zero_le _) (Nat.zero_le _) (Call.mono h (fun r2 M3 h => ?_))
  obtain ⟨rfl, h⟩ := h
  refine r_iload_n (pc := 7) (i := 1) dJ7_fill_fda19_7 rfl rfl ?_
  refine r_istore (pc := 8) (i := 4) dJ7_fill_fda19_8 rfl (Nat.le_of_ble_eq_true rfl) ?_
  exact h
theorem vJ7_fill_fda19_10 {G : GG} {d rc rs : Nat} (p0 : Nat) (x1 : Int32) (x2 : Int32) (x3 : Int32) (x4 : Int32)  {M : Mem} {Q : Option Value → Mem → Prop} (h : (x2 ≤ x4 → Q none M) ∧ (¬ x2 ≤ x4 → (x_h M p0).1 = 1 ∧ vp_in x4 (x_h M p0).2 ∧ (∀ M4, M4 = x_si M p0 x4.toNatClampNeg x3 → LJ7_fill_fda19_10 G d rc rs p0 x1 x2 x3 (x4 + 1) M4 Q))) : LJ7_fill_fda19_10 G d rc rs p0 x1 x2 x3 x4 M Q := by
  show Wk G (d + 1) rc rs mJ7_fill_fda19 10 _ _ M Q
  refine r_iload (pc := 10) (i := 4) dJ7_fill_fda19_10 rfl ?_
  refine r_iload_n (pc := 12) (i := 2) dJ7_fill_fda19_12 rfl rfl ?_
  refine r_icmp_ge (pc := 13) (tgt := 27) dJ7_fill_fda19_13 (by decide) (fun c1 => ?_) (fun c1 => ?_)
  · replace h := h.1 c1
    exact r_vret (pc := 27) dJ7_fill_fda19_27 rfl h
  · replace h := h.2 c1
    refine r_aload_n (pc := 16) (i := 0) dJ7_fill_fda19_16 rfl rfl ?_
    refine r_iload (pc := 17) (i := 4) dJ7_fill_fda19_17 rfl ?_
    refine r_iload_n (pc := 19) (i := 3) dJ7_fill_fda19_19 rfl rfl ?_
    obtain ⟨k2, h⟩ := h
    obtain ⟨i3, h⟩ := h
    refine r_iast (pc := 20) dJ7_fill_fda19_20 k2 i3 ?_
    replace h := h _ rfl
    refine r_iinc (pc := 21) (i := 4) (v := _ + 1) dJ7_fill_fda19_21 rfl rfl rfl ?_
    refine r_goto (pc := 24) (tgt := 10) dJ7_fill_fda19_24 (by decide) ?_
    exact h
