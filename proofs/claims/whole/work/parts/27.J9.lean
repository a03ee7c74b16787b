section MathCalls
/-- a method of a class some of whose methods the host runs itself: this one isn't one of them -/
theorem Met.ofWF {l : Launch} {y : MethodName} {ws ws' : List Cond} {rm : Room} {Pc : Array Value → State → Prop} {Qc : Array Value → State → Outcome → State → Prop} {mc ms : Nat} {free : Addr → Prop} {cc : ByteArray} {maxL : Nat} {ret : Option FieldType}
    (hy : plainFor y = true) (hw : ws = Cond.code y cc maxL ret :: ws')
    (body : ∀ p e s m args below meth c s₁, BodyLoose p l y (headSpec ws rm) cc maxL ret e s m args below meth c s₁ → c.maxLocals = maxL → Pc args s →
      W p l e (headSpec ws rm).room s m args below meth c s.heap [] 0 0 (MQ below Qc args s mc ms free) (entryFrame m args maxL)) : Met l y ws rm Pc Qc mc ms free := by
  refine MetFree.of_bodySF (code := cc) (maxLocals := maxL) (ret := ret) hy ?_ ?_
  · intro args s m h hn
    obtain ⟨meth, c, h1, h2, h3, h4, h5, h6, -, -⟩ := Cond.code_spec hn (atoms_spec (ws := ws) h _ (by rw [hw]; exact List.mem_cons_self))
    exact ⟨meth, c, h1, h2, h3, h4, h5, h6⟩
  · intro p e s m args below meth c s₁ B hml hP _
    have hh0 : s₁.heap = s.heap := by rw [B.state]; rfl
    obtain ⟨t, a1, o, b1, b2, b3⟩ := body p e s m args below meth c s₁ B hml hP s₁ hh0 (Stand.of_body B)
    exact ⟨t, o, a1, b1, b2, ⟨b3.1, b3.2⟩⟩
theorem call_ofF {G : GG} {d rc rs : Nat} {md : MD} {X : Mem} {Q : Option Value → Mem → Prop} {as : List Value} (hpl : plainFor md.1 = true) (hml : (lv0 as).length ≤ md.2.2.1) (h : Wk G d rc rs md 0 (lvE md.2.2.1 as) [] X Q) : Call G d rc rs md as X Q := by
  intro hG
  refine Met.ofWF (cc := md.2.1) (maxL := md.2.2.1) (ret := md.2.2.2) hpl rfl ?_
  intro p e s m args below meth c s₁ B hml0 hv
  obtain ⟨rfl, hR, hW⟩ := hv
  have hl := lv_entry as (n := md.2.2.1) (by rw [← lv0_len]; exact hml)
  rw [lg_entry_eq]
  generalize ((lg_sl as ++ List.replicate (md.2.2.1 - (lg_sl as).length) Slot.unset).toArray) = ls at hl ⊢
  exact h hG p e s m as.toArray below meth c s.heap [] ls 0 0 rc rs ⟨B.exec, B.bytes, hml0, B.returns, B.notSynchronized, findClass_of_methodNamed B.named, (name_of_methodNamed B.named B.method).1, hW, by rw [hR.2.1]; omega⟩
    ⟨hR, va_S.rf, by unfold lvE; rw [lvp_E]; exact hl, by unfold lvE; rw [List.length_append, List.length_replicate]; omega⟩ (by omega) (by omega)
end MathCalls
/-! java/lang/Math: decode rows and verification conditions, by program -/
theorem dJ9_floorMod_7cf53_0 : decode cJ9_floorMod_7cf53 0 = .ok (.iload_n 0, 1) := by decide +kernel
theorem dJ9_floorMod_7cf53_1 : decode cJ9_floorMod_7cf53 1 = .ok (.iload_n 1, 1) := by decide +kernel
theorem dJ9_floorMod_7cf53_2 : decode cJ9_floorMod_7cf53 2 = .ok (.irem, 1) := by decide +kernel
theorem dJ9_floorMod_7cf53_3 : decode cJ9_floorMod_7cf53 3 = .ok (.istore_n 2, 1) := by decide +kernel
theorem dJ9_floorMod_7cf53_4 : decode cJ9_floorMod_7cf53 4 = .ok (.iload_n 0, 1) := by decide +kernel
theorem dJ9_floorMod_7cf53_5 : decode cJ9_floorMod_7cf53 5 = .ok (.iload_n 1, 1) := by decide +kernel
theorem dJ9_floorMod_7cf53_6 : decode cJ9_floorMod_7cf53 6 = .ok (.ixor, 1) := by decide +kernel
theorem dJ9_floorMod_7cf53_7 : decode cJ9_floorMod_7cf53 7 = .ok (.ifCond .ge 11, 3) := by decide +kernel
theorem dJ9_floorMod_7cf53_10 : decode cJ9_floorMod_7cf53 10 = .ok (.iload_n 2, 1) := by decide +kernel
theorem dJ9_floorMod_7cf53_11 : decode cJ9_floorMod_7cf53 11 = .ok (.ifCond .eq 7, 3) := by decide +kernel
theorem dJ9_floorMod_7cf53_14 : decode cJ9_floorMod_7cf53 14 = .ok (.iload_n 2, 1) := by decide +kernel
theorem dJ9_floorMod_7cf53_15 : decode cJ9_floorMod_7cf53 15 = .ok (.iload_n 1, 1) := by decide +kernel
theorem dJ9_floorMod_7cf53_16 : decode cJ9_floorMod_7cf53 16 = .ok (.iadd, 1) := by decide +kernel
theorem dJ9_floorMod_7cf53_17 : decode cJ9_floorMod_7cf53 17 = .ok (.ireturn, 1) := by decide +kernel
theorem dJ9_floorMod_7cf53_18 : decode cJ9_floorMod_7cf53 18 = .ok (.iload_n 2, 1) := by decide +kernel
theorem dJ9_floorMod_7cf53_19 : decode cJ9_floorMod_7cf53 19 = .ok (.ireturn, 1) := by decide +kernel
theorem dJ9_max_7cf53_0 : decode cJ9_max_7cf53 0 = .ok (.iload_n 0, 1) := by decide +kernel
theorem dJ9_max_7cf53_1 : decode cJ9_max_7cf53 1 = .ok (.iload_n 1, 1) := by decide +kernel
theorem dJ9_max_7cf53_2 : decode cJ9_max_7cf53 2 = .ok (.if_icmp .lt 7, 3) := by decide +kernel
theorem dJ9_max_7cf53_5 : decode cJ9_max_7cf53 5 = .ok (.iload_n 0, 1) := by decide +kernel
theorem dJ9_max_7cf53_6 : decode cJ9_max_7cf53 6 = .ok (.goto 4, 3) := by decide +kernel
theorem dJ9_max_7cf53_9 : decode cJ9_max_7cf53 9 = .ok (.iload_n 1, 1) := by decide +kernel
theorem dJ9_max_7cf53_10 : decode cJ9_max_7cf53 10 = .ok (.ireturn, 1) := by decide +kernel
theorem dJ9_min_7cf53_0 : decode cJ9_min_7cf53 0 = .ok (.iload_n 0, 1) := by decide +kernel
theorem dJ9_min_7cf53_1 : decode cJ9_min_7cf53 1 = .ok (.iload_n 1, 1) := by decide +kernel
theorem dJ9_min_7cf53_2 : decode cJ9_min_7cf53 2 = .ok (.if_icmp .gt 7, 3) := by decide +kernel
theorem dJ9_min_7cf53_5 : decode cJ9_min_7cf53 5 = .ok (.iload_n 0, 1) := by decide +kernel
theorem dJ9_min_7cf53_6 : decode cJ9_min_7cf53 6 = .ok (.goto 4, 3) := by decide +kernel
theorem dJ9_min_7cf53_9 : decode cJ9_min_7cf53 9 = .ok (.iload_n 1, 1) := by decide +kernel
theorem dJ9_min_7cf53_10 : decode cJ9_min_7cf53 10 = .ok (.ireturn, 1) := by decide +kernel
theorem eJ9_floorMod_7cf53 {G : GG} {d rc rs : Nat} (a1 : Int32) (a2 : Int32) {M : Mem} {Q : Option Value → Mem → Prop} (h : ¬ a2 = 0 ∧ (0 ≤ (a1 ^^^ a2) → Q (some (.int (a1 - a1 / a2 * a2))) M) ∧ (¬ 0 ≤ (a1 ^^^ a2) → ((a1 - a1 / a2 * a2) = 0 → Q (some (.int (a1 - a1 / a2 * a2))) M) ∧ (¬ (a1 - a1 / a2 * a2) = 0 → Q (some (.int ((a1 - a1 / a2 * a2) + a2))) M))) : Call G (d + 1) rc rs mJ9_floorMod_7cf53 [.int a1, .int a2] M Q := by
  refine call_ofF (by decide +kernel) (Nat.le_of_ble_eq_true rfl) ?_
  show Wk G (d + 1) rc rs mJ9_floorMod_7cf53 0 [some (.int a1), some (.int a2), none] [] M Q
  refine r_iload_n (pc := 0) (i := 0) dJ9_floorMod_7cf53_0 rfl rfl ?_
  refine r_iload_n (pc := 1) (i := 1) dJ9_floorMod_7cf53_1 rfl rfl ?_
  obtain ⟨n1, h⟩ := h
  refine r_irem (pc := 2) dJ9_floorMod_7cf53_2 n1 ?_
  refine r_istore_n (pc := 3) (i := 2) dJ9_floorMod_7cf53_3 rfl rfl (Nat.le_of_ble_eq_true rfl) ?_
  refine r_iload_n (pc := 4) (i := 0) dJ9_floorMod_7cf53_4 rfl rfl ?_
  refine r_iload_n (pc := 5) (i := 1) dJ9_floorMod_7cf53_5 rfl rfl ?_
  refine r_ixor (pc := 6) dJ9_floorMod_7cf53_6 ?_
  refine r_if_ge (pc := 7) (tgt := 18) dJ9_floorMod_7cf53_7 (by decide) (fun c2 => ?_) (fun c2 => ?_)
  · replace h := h.1 c2
    refine r_iload_n (pc := 18) (i := 2) dJ9_floorMod_7cf53_18 rfl rfl ?_
    exact r_iret (pc := 19) dJ9_floorMod_7cf53_19 rfl h
  · replace h := h.2 c2
    refine r_iload_n (pc := 10) (i := 2) dJ9_floorMod_7cf53_10 rfl rfl ?_
    refine r_if_eq (pc := 11) (tgt := 18) dJ9_floorMod_7cf53_11 (by decide) (fun c3 => ?_) (fun c3 => ?_)
    · replace h := h.1 c3
      refine r_iload_n (pc := 18) (i := 2) dJ9_floorMod_7cf53_18 rfl rfl ?_
      exact r_iret (pc := 19) dJ9_floorMod_7cf53_19 rfl h
    · replace h := h.2 c3
      refine r_iload_n (pc := 14) (i := 2) dJ9_floorMod_7cf53_14 rfl rfl ?_
      refine r_iload_n (pc := 15) (i := 1) dJ9_floorMod_7cf53_15 rfl rfl ?_
      refine r_iadd (pc := 16) dJ9_floorMod_7cf53_16 ?_
      exact r_iret (pc := 17) dJ9_floorMod_7cf53_17 rfl h
theorem eJ9_max_7cf53 {G : GG} {d rc rs : Nat} (a1 : Int32) (a2 : Int32) {M : Mem} {Q : Option Value → Mem → Prop} (h : (a1 < a2 → Q (some (.int a2)) M) ∧ (¬ a1 < a2 → Q (some (.int a1)) M)) : Call G (d + 1) rc rs mJ9_max_7cf53 [.int a1, .int a2] M Q := by
  refine call_ofF (by decide +kernel) (Nat.le_of_ble_eq_true rfl) ?_
  show Wk G (d + 1) rc rs mJ9_max_7cf53 0 [some (.int a1), some (.int a2)] [] M Q
  refine r_iload_n (pc := 0) (i := 0) dJ9_max_7cf53_0 rfl rfl ?_
  refine r_iload_n (pc := 1) (i := 1) dJ9_max_7cf53_1 rfl rfl ?_
  refine r_icmp_lt (pc := 2) (tgt := 9) dJ9_max_7cf53_2 (by decide) (fun c1 => ?_) (fun c1 => ?_)
  · replace h := h.1 c1
    refine r_iload_n (pc := 9) (i := 1) dJ9_max_7cf53_9 rfl rfl ?_
    exact r_iret (pc := 10) dJ9_max_7cf53_10 rfl h
  · replace h := h.2 c1
    refine r_iload_n (pc := 5) (i := 0) dJ9_max_7cf53_5 rfl rfl ?_
    refine r_goto (pc := 6) (tgt := 10) dJ9_max_7cf53_6 (by decide) ?_
    exact r_iret (pc := 10) dJ9_max_7cf53_10 rfl h
theorem eJ9_min_7cf53 {G : GG} {d rc rs : Nat} (a1 : Int32) (a2 : Int32) {M : Mem} {Q : Option Value → Mem → Prop} (h : (a2 < a1 → Q (some (.int a2)) M) ∧ (¬ a2 < a1 → Q (some (.int a1)) M)) : Call G (d + 1) rc rs mJ9_min_7cf53 [.int a1, .int a2] M Q := by
  refine call_ofF (by decide +kernel) (Nat.le_of_ble_eq_true rfl) ?_
  show Wk G (d + 1) rc rs mJ9_min_7cf53 0 [some (.int a1), some (.int a2)] [] M Q
  refine r_iload_n (pc := 0) (i := 0) dJ9_min_7cf53_0 rfl rfl ?_
  refine r_iload_n (pc := 1) (i := 1) dJ9_min_7cf53_1 rfl rfl ?_
  refine r_icmp_gt (pc := 2) (tgt := 9) dJ9_min_7cf53_2 (by decide) (fun c1 => ?_) (fun c1 => ?_)
  · replace h := h.1 c1
    refine r_iload_n (pc := 9) (i := 1) dJ9_min_7cf53_9 rfl rfl ?_
    exact r_iret (pc := 10) dJ9_min_7cf53_10 rfl h
  · replace h := h.2 c1
    refine r_iload_n (pc := 5) (i := 0) dJ9_min_7cf53_5 rfl rfl ?_
    refine r_goto (pc := 6) (tgt := 10) dJ9_min_7cf53_6 (by decide) ?_
    exact r_iret (pc := 10) dJ9_min_7cf53_10 rfl h
