/-! EndlessRows: decode rows and verification conditions, by program -/
theorem dX11_init_0 : decode cX11_init 0 = .ok (.aload_n 0, 1) := by decide +kernel
theorem dX11_init_1 : decode cX11_init 1 = .ok (.invokespecial 3, 3) := by decide +kernel
theorem dX11_init_4 : decode cX11_init 4 = .ok (.aload_n 0, 1) := by decide +kernel
theorem dX11_init_5 : decode cX11_init 5 = .ok (.bipush 10, 2) := by decide +kernel
theorem dX11_init_7 : decode cX11_init 7 = .ok (.anewarray 9, 3) := by decide +kernel
theorem dX11_init_10 : decode cX11_init 10 = .ok (.putfield 11, 3) := by decide +kernel
theorem dX11_init_13 : decode cX11_init 13 = .ok (.aload_n 0, 1) := by decide +kernel
theorem dX11_init_14 : decode cX11_init 14 = .ok (.bipush 10, 2) := by decide +kernel
theorem dX11_init_16 : decode cX11_init 16 = .ok (.anewarray 15, 3) := by decide +kernel
theorem dX11_init_19 : decode cX11_init 19 = .ok (.putfield 17, 3) := by decide +kernel
theorem dX11_init_22 : decode cX11_init 22 = .ok (.aload_n 0, 1) := by decide +kernel
theorem dX11_init_23 : decode cX11_init 23 = .ok (.bipush 120, 2) := by decide +kernel
theorem dX11_init_25 : decode cX11_init 25 = .ok (.newarray .int, 2) := by decide +kernel
theorem dX11_init_27 : decode cX11_init 27 = .ok (.putfield 21, 3) := by decide +kernel
theorem dX11_init_30 : decode cX11_init 30 = .ok (.aload_n 0, 1) := by decide +kernel
theorem dX11_init_31 : decode cX11_init 31 = .ok (.bipush 6, 2) := by decide +kernel
theorem dX11_init_33 : decode cX11_init 33 = .ok (.bipush 40, 2) := by decide +kernel
theorem dX11_init_35 : decode cX11_init 35 = .ok (.multianewarray 25 2, 4) := by decide +kernel
theorem dX11_init_39 : decode cX11_init 39 = .ok (.putfield 27, 3) := by decide +kernel
theorem dX11_init_42 : decode cX11_init 42 = .ok (.aload_n 0, 1) := by decide +kernel
theorem dX11_init_43 : decode cX11_init 43 = .ok (.bipush 6, 2) := by decide +kernel
theorem dX11_init_45 : decode cX11_init 45 = .ok (.newarray .int, 2) := by decide +kernel
theorem dX11_init_47 : decode cX11_init 47 = .ok (.putfield 30, 3) := by decide +kernel
theorem dX11_init_50 : decode cX11_init 50 = .ok (.aload_n 0, 1) := by decide +kernel
theorem dX11_init_51 : decode cX11_init 51 = .ok (.bipush 6, 2) := by decide +kernel
theorem dX11_init_53 : decode cX11_init 53 = .ok (.newarray .int, 2) := by decide +kernel
theorem dX11_init_55 : decode cX11_init 55 = .ok (.putfield 33, 3) := by decide +kernel
theorem dX11_init_58 : decode cX11_init 58 = .ok (.aload_n 0, 1) := by decide +kernel
theorem dX11_init_59 : decode cX11_init 59 = .ok (.bipush 40, 2) := by decide +kernel
theorem dX11_init_61 : decode cX11_init 61 = .ok (.newarray .int, 2) := by decide +kernel
theorem dX11_init_63 : decode cX11_init 63 = .ok (.putfield 36, 3) := by decide +kernel
theorem dX11_init_66 : decode cX11_init 66 = .ok (.aload_n 0, 1) := by decide +kernel
theorem dX11_init_67 : decode cX11_init 67 = .ok (.new 39, 3) := by decide +kernel
theorem dX11_init_70 : decode cX11_init 70 = .ok (.dup, 1) := by decide +kernel
theorem dX11_init_71 : decode cX11_init 71 = .ok (.invokespecial 41, 3) := by decide +kernel
theorem dX11_init_74 : decode cX11_init 74 = .ok (.putfield 42, 3) := by decide +kernel
theorem dX11_init_77 : decode cX11_init 77 = .ok (.aload_n 0, 1) := by decide +kernel
theorem dX11_init_78 : decode cX11_init 78 = .ok (.new 46, 3) := by decide +kernel
theorem dX11_init_81 : decode cX11_init 81 = .ok (.dup, 1) := by decide +kernel
theorem dX11_init_82 : decode cX11_init 82 = .ok (.invokespecial 48, 3) := by decide +kernel
theorem dX11_init_85 : decode cX11_init 85 = .ok (.putfield 49, 3) := by decide +kernel
theorem dX11_init_88 : decode cX11_init 88 = .ok (.aload_n 0, 1) := by decide +kernel
theorem dX11_init_89 : decode cX11_init 89 = .ok (.new 53, 3) := by decide +kernel
theorem dX11_init_92 : decode cX11_init 92 = .ok (.dup, 1) := by decide +kernel
theorem dX11_init_93 : decode cX11_init 93 = .ok (.invokespecial 55, 3) := by decide +kernel
theorem dX11_init_96 : decode cX11_init 96 = .ok (.putfield 56, 3) := by decide +kernel
theorem dX11_init_99 : decode cX11_init 99 = .ok (.aload_n 0, 1) := by decide +kernel
theorem dX11_init_100 : decode cX11_init 100 = .ok (.new 60, 3) := by decide +kernel
theorem dX11_init_103 : decode cX11_init 103 = .ok (.dup, 1) := by decide +kernel
theorem dX11_init_104 : decode cX11_init 104 = .ok (.invokespecial 62, 3) := by decide +kernel
theorem dX11_init_107 : decode cX11_init 107 = .ok (.putfield 63, 3) := by decide +kernel
theorem dX11_init_110 : decode cX11_init 110 = .ok (.aload_n 0, 1) := by decide +kernel
theorem dX11_init_111 : decode cX11_init 111 = .ok (.iconst 2, 1) := by decide +kernel
theorem dX11_init_112 : decode cX11_init 112 = .ok (.putfield 67, 3) := by decide +kernel
theorem dX11_init_115 : decode cX11_init 115 = .ok (.aload_n 0, 1) := by decide +kernel
theorem dX11_init_116 : decode cX11_init 116 = .ok (.iconst 0, 1) := by decide +kernel
theorem dX11_init_117 : decode cX11_init 117 = .ok (.putfield 71, 3) := by decide +kernel
theorem dX11_init_120 : decode cX11_init 120 = .ok (.aload_n 0, 1) := by decide +kernel
theorem dX11_init_121 : decode cX11_init 121 = .ok (.iconst 0, 1) := by decide +kernel
theorem dX11_init_122 : decode cX11_init 122 = .ok (.putfield 74, 3) := by decide +kernel
theorem dX11_init_125 : decode cX11_init 125 = .ok (.aload_n 0, 1) := by decide +kernel
theorem dX11_init_126 : decode cX11_init 126 = .ok (.iconst 0, 1) := by decide +kernel
theorem dX11_init_127 : decode cX11_init 127 = .ok (.putfield 77, 3) := by decide +kernel
theorem dX11_init_130 : decode cX11_init 130 = .ok (.aload_n 0, 1) := by decide +kernel
theorem dX11_init_131 : decode cX11_init 131 = .ok (.iconst 0, 1) := by decide +kernel
theorem dX11_init_132 : decode cX11_init 132 = .ok (.putfield 80, 3) := by decide +kernel
theorem dX11_init_135 : decode cX11_init 135 = .ok (.iconst 0, 1) := by decide +kernel
theorem dX11_init_136 : decode cX11_init 136 = .ok (.istore_n 1, 1) := by decide +kernel
theorem dX11_init_137 : decode cX11_init 137 = .ok (.iload_n 1, 1) := by decide +kernel
theorem dX11_init_138 : decode cX11_init 138 = .ok (.bipush 10, 2) := by decide +kernel
theorem dX11_init_140 : decode cX11_init 140 = .ok (.if_icmp .ge 35, 3) := by decide +kernel
theorem dX11_init_143 : decode cX11_init 143 = .ok (.aload_n 0, 1) := by decide +kernel
theorem dX11_init_144 : decode cX11_init 144 = .ok (.getfield 11, 3) := by decide +kernel
theorem dX11_init_147 : decode cX11_init 147 = .ok (.iload_n 1, 1) := by decide +kernel
theorem dX11_init_148 : decode cX11_init 148 = .ok (.new 9, 3) := by decide +kernel
theorem dX11_init_151 : decode cX11_init 151 = .ok (.dup, 1) := by decide +kernel
theorem dX11_init_152 : decode cX11_init 152 = .ok (.invokespecial 83, 3) := by decide +kernel
theorem dX11_init_155 : decode cX11_init 155 = .ok (.aastore, 1) := by decide +kernel
theorem dX11_init_156 : decode cX11_init 156 = .ok (.aload_n 0, 1) := by decide +kernel
theorem dX11_init_157 : decode cX11_init 157 = .ok (.getfield 17, 3) := by decide +kernel
theorem dX11_init_160 : decode cX11_init 160 = .ok (.iload_n 1, 1) := by decide +kernel
theorem dX11_init_161 : decode cX11_init 161 = .ok (.new 15, 3) := by decide +kernel
theorem dX11_init_164 : decode cX11_init 164 = .ok (.dup, 1) := by decide +kernel
theorem dX11_init_165 : decode cX11_init 165 = .ok (.invokespecial 84, 3) := by decide +kernel
theorem dX11_init_168 : decode cX11_init 168 = .ok (.aastore, 1) := by decide +kernel
theorem dX11_init_169 : decode cX11_init 169 = .ok (.iinc 1 1, 3) := by decide +kernel
theorem dX11_init_172 : decode cX11_init 172 = .ok (.goto (-35), 3) := by decide +kernel
theorem dX11_init_175 : decode cX11_init 175 = .ok (.aload_n 0, 1) := by decide +kernel
theorem dX11_init_176 : decode cX11_init 176 = .ok (.getfield 30, 3) := by decide +kernel
theorem dX11_init_179 : decode cX11_init 179 = .ok (.iconst (-1), 1) := by decide +kernel
theorem dX11_init_180 : decode cX11_init 180 = .ok (.invokestatic 85, 3) := by decide +kernel
theorem dX11_init_183 : decode cX11_init 183 = .ok (.return_, 1) := by decide +kernel
abbrev LX11_init_66 (G : GG) (d rc rs : Nat) (p0 : Nat) (M : Mem) (Q : Option Value → Mem → Prop) : Prop := Wk G (d + 1) rc rs mX11_init 66 [some (.ref p0), none] [] M Q
abbrev LX11_init_130 (G : GG) (d rc rs : Nat) (p0 : Nat) (M : Mem) (Q : Option Value → Mem → Prop) : Prop := Wk G (d + 1) rc rs mX11_init 130 [some (.ref p0), none] [] M Q
abbrev LX11_init_137 (G : GG) (d rc rs : Nat) (p0 : Nat) (x1 : Int32) (M : Mem) (Q : Option Value → Mem → Prop) : Prop := Wk G (d + 1) rc rs mX11_init 137 [some (.ref p0), some (.int x1)] [] M Q
abbrev LX11_init_183 (G : GG) (d rc rs : Nat) (p0 : Nat) (x1 : Int32) (M : Mem) (Q : Option Value → Mem → Prop) : Prop := Wk G (d + 1) rc rs mX11_init 183 [some (.ref p0), some (.int x1)] [] M Q
theorem eX11_init {G : GG} {d rc rs : Nat} (o : Nat)  {M : Mem} {Q : Option Value → Mem → Prop} (h : 1 ≤ rc ∧ 10 ≤ rs ∧ (∀ n1, n1 = g_b G + x_n M → ∀ M2, M2 = x_new M n1 4 10 → (x_h M2 o).1 = 27 ∧ (∀ M7, M7 = x_sr M2 o 0 (some n1) → 1 ≤ (rc - 1) ∧ 10 ≤ (rs - 10) ∧ (∀ n8, n8 = g_b G + x_n M7 → ∀ M9, M9 = x_new M7 n8 5 10 → (x_h M9 o).1 = 27 ∧ (∀ M14, M14 = x_sr M9 o 1 (some n8) → 1 ≤ ((rc - 1) - 1) ∧ 120 ≤ ((rs - 10) - 10) ∧ (∀ n15, n15 = g_b G + x_n M14 → ∀ M16, M16 = x_new M14 n15 1 120 → (x_h M16 o).1 = 27 ∧ (∀ M21, M21 = x_sr M16 o 2 (some n15) → 1 + 6 ≤ (((rc - 1) - 1) - 1) ∧ 6 + 6 * 40 ≤ (((rs - 10) - 10) - 120) ∧ (∀ n24, n24 = g_b G + x_n M21 → ∀ M25, M25 = x_mna M21 n24 6 40 → (x_h M25 o).1 = 27 ∧ (∀ M27, M27 = x_sr M25 o 3 (some n24) → 1 ≤ ((((rc - 1) - 1) - 1) - (1 + 6)) ∧ 6 ≤ ((((rs - 10) - 10) - 120) - (6 + 6 * 40)) ∧ (∀ n28, n28 = g_b G + x_n M27 → ∀ M29, M29 = x_new M27 n28 1 6 → (x_h M29 o).1 = 27 ∧ (∀ M34, M34 = x_sr M29 o 4 (some n28) → 1 ≤ (((((rc - 1) - 1) - 1) - (1 + 6)) - 1) ∧ 6 ≤ (((((rs - 10) - 10) - 120) - (6 + 6 * 40)) - 6) ∧ (∀ n35, n35 = g_b G + x_n M34 → ∀ M36, M36 = x_new M34 n35 1 6 → (x_h M36 o).1 = 27 ∧ (∀ M41, M41 = x_sr M36 o 5 (some n35) → 1 ≤ ((((((rc - 1) - 1) - 1) - (1 + 6)) - 1) - 1) ∧ 40 ≤ ((((((rs - 10) - 10) - 120) - (6 + 6 * 40)) - 6) - 6) ∧ (∀ n42, n42 = g_b G + x_n M41 → ∀ M43, M43 = x_new M41 n42 1 40 → (x_h M43 o).1 = 27 ∧ (∀ M48, M48 = x_sr M43 o 6 (some n42) → LX11_init_66 G d (((((((rc - 1) - 1) - 1) - (1 + 6)) - 1) - 1) - 1) (((((((rs - 10) - 10) - 120) - (6 + 6 * 40)) - 6) - 6) - 40) o M48 Q))))))))))))))) : Call G (d + 1) rc rs mX11_init [.ref o] M Q := by
  refine call_of (by decide) (Nat.le_of_ble_eq_true rfl) ?_
  show Wk G (d + 1) rc rs mX11_init 0 [some (.ref o), none] [] M Q
  refine r_aload_n (pc := 0) (i := 0) dX11_init_0 rfl rfl ?_
  refine r_objInit (pc := 1) (st := []) ww_27 ww_28 ww_29 dX11_init_1 (Nat.le_of_ble_eq_true rfl) ?_
  refine r_aload_n (pc := 4) (i := 0) dX11_init_4 rfl rfl ?_
  refine r_bipush (pc := 5) (v := 10) dX11_init_5 (by decide) ?_
  obtain ⟨y4, y5, h⟩ := h
  refine r_newRV (pc := 7) (n := 10) (kd := 4) dX11_init_7 (by decide) rfl ww_30 ww_31 (by decide) (by decide) (by decide) y4 y5 (fun n1 M2 enn1 eMn1 e3 => ?_)
  replace h := h n1 enn1 M2 eMn1
  obtain ⟨k6, h⟩ := h
  refine r_putr (pc := 10) (r := some _) flX11_11 dX11_init_10 rfl (fun q hq => by cases hq; exact Or.inr ⟨rfl, rfl, rfl⟩) (fun q hq _ => by cases hq; exact ww_419) k6 ?_
  replace h := h _ rfl
  refine r_aload_n (pc := 13) (i := 0) dX11_init_13 rfl rfl ?_
  refine r_bipush (pc := 14) (v := 10) dX11_init_14 (by decide) ?_
  obtain ⟨y11, y12, h⟩ := h
  refine r_newRV (pc := 16) (n := 10) (kd := 5) dX11_init_16 (by decide) rfl ww_32 ww_33 (by decide) (by decide) (by decide) y11 y12 (fun n8 M9 enn8 eMn8 e10 => ?_)
  replace h := h n8 enn8 M9 eMn8
  obtain ⟨k13, h⟩ := h
  refine r_putr (pc := 19) (r := some _) flX11_17 dX11_init_19 rfl (fun q hq => by cases hq; exact Or.inr ⟨rfl, rfl, rfl⟩) (fun q hq _ => by cases hq; exact ww_420) k13 ?_
  replace h := h _ rfl
  refine r_aload_n (pc := 22) (i := 0) dX11_init_22 rfl rfl ?_
  refine r_bipush (pc := 23) (v := 120) dX11_init_23 (by decide) ?_
  obtain ⟨y18, y19, h⟩ := h
  refine r_newIV (pc := 25) (n := 120) dX11_init_25 (by decide) (by decide) (by decide) y18 y19 (fun n15 M16 enn15 eMn15 e17 => ?_)
  replace h := h n15 enn15 M16 eMn15
  obtain ⟨k20, h⟩ := h
  refine r_putr (pc := 27) (r := some _) flX11_21 dX11_init_27 rfl (fun q hq => by cases hq; exact Or.inr ⟨rfl, rfl, rfl⟩) (fun q hq _ => by cases hq; exact ww_421) k20 ?_
  replace h := h _ rfl
  refine r_aload_n (pc := 30) (i := 0) dX11_init_30 rfl rfl ?_
  refine r_bipush (pc := 31) (v := 6) dX11_init_31 (by decide) ?_
  refine r_bipush (pc := 33) (v := 40) dX11_init_33 (by decide) ?_
  obtain ⟨y22, y23, h⟩ := h
  refine r_mna (pc := 35) (n := 6) (k := 40) dX11_init_35 ww_34 (by decide) (by decide) (by decide) (by decide) (by decide) (by decide) y22 y23 (fun n24 M25 enn24 eMn24 => ?_)
  replace h := h n24 enn24 M25 eMn24
  obtain ⟨k26, h⟩ := h
  refine r_putr (pc := 39) (r := some _) flX11_27 dX11_init_39 rfl (fun q hq => by cases hq; exact Or.inr ⟨rfl, rfl, rfl⟩) (fun q hq _ => by cases hq; exact ww_422) k26 ?_
  replace h := h _ rfl
  refine r_aload_n (pc := 42) (i := 0) dX11_init_42 rfl rfl ?_
  refine r_bipush (pc := 43) (v := 6) dX11_init_43 (by decide) ?_
  obtain ⟨y31, y32, h⟩ := h
  refine r_newIV (pc := 45) (n := 6) dX11_init_45 (by decide) (by decide) (by decide) y31 y32 (fun n28 M29 enn28 eMn28 e30 => ?_)
  replace h := h n28 enn28 M29 eMn28
  obtain ⟨k33, h⟩ := h
  refine r_putr (pc := 47) (r := some _) flX11_30 dX11_init_47 rfl (fun q hq => by cases hq; exact Or.inr ⟨rfl, rfl, rfl⟩) (fun q hq _ => by cases hq; exact ww_423) k33 ?_
  replace h := h _ rfl
  refine r_aload_n (pc := 50) (i := 0) dX11_init_50 rfl rfl ?_
  refine r_bipush (pc := 51) (v := 6) dX11_init_51 (by decide) ?_
  obtain ⟨y38, y39, h⟩ := h
  refine r_newIV (pc := 53) (n := 6) dX11_init_53 (by decide) (by decide) (by decide) y38 y39 (fun n35 M36 enn35 eMn35 e37 => ?_)
  replace h := h n35 enn35 M36 eMn35
  obtain ⟨k40, h⟩ := h
  refine r_putr (pc := 55) (r := some _) flX11_33 dX11_init_55 rfl (fun q hq => by cases hq; exact Or.inr ⟨rfl, rfl, rfl⟩) (fun q hq _ => by cases hq; exact ww_424) k40 ?_
  replace h := h _ rfl
  refine r_aload_n (pc := 58) (i := 0) dX11_init_58 rfl rfl ?_
  refine r_bipush (pc := 59) (v := 40) dX11_init_59 (by decide) ?_
  obtain ⟨y45, y46, h⟩ := h
  refine r_newIV (pc := 61) (n := 40) dX11_init_61 (by decide) (by decide) (by decide) y45 y46 (fun n42 M43 enn42 eMn42 e44 => ?_)
  replace h := h n42 enn42 M43 eMn42
  obtain ⟨k47, h⟩ := h
  refine r_putr (pc := 63) (r := some _) flX11_36 dX11_init_63 rfl (fun q hq => by cases hq; exact Or.inr ⟨rfl, rfl, rfl⟩) (fun q hq _ => by cases hq; exact ww_425) k47 ?_
  replace h := h _ rfl
  exact h
theorem vX11_init_66 {G : GG} {d rc rs : Nat} (p0 : Nat)  {M : Mem} {Q : Option Value → Mem → Prop} (h : 1 ≤ rc ∧ 10 ≤ rs ∧ (∀ n3, n3 = g_b G + x_n M → ∀ M4, M4 = x_new M n3 21 0 → 487 ≤ (rc - 1) ∧ 69849 ≤ (rs - 10) ∧ Call G d 487 69849 mX5_init [.ref n3] M4 (fun r8 M9 => r8 = none ∧ (x_h M9 p0).1 = 27 ∧ (∀ M11, M11 = x_sr M9 p0 7 (some n3) → 1 ≤ ((rc - 1) - 487) ∧ 12 ≤ ((rs - 10) - 69849) ∧ (∀ n14, n14 = g_b G + x_n M11 → ∀ M15, M15 = x_new M11 n14 26 0 → 21 ≤ (((rc - 1) - 487) - 1) ∧ 67035 ≤ (((rs - 10) - 69849) - 12) ∧ Call G d 21 67035 mX10_init [.ref n14] M15 (fun r19 M20 => r19 = none ∧ (x_h M20 p0).1 = 27 ∧ (∀ M22, M22 = x_sr M20 p0 8 (some n14) → 1 ≤ ((((rc - 1) - 487) - 1) - 21) ∧ 9 ≤ ((((rs - 10) - 69849) - 12) - 67035) ∧ (∀ n25, n25 = g_b G + x_n M22 → ∀ M26, M26 = x_new M22 n25 22 0 → 9 ≤ (((((rc - 1) - 487) - 1) - 21) - 1) ∧ 11155 ≤ (((((rs - 10) - 69849) - 12) - 67035) - 9) ∧ Call G d 9 11155 mX6_init [.ref n25] M26 (fun r30 M31 => r30 = none ∧ (x_h M31 p0).1 = 27 ∧ (∀ M33, M33 = x_sr M31 p0 9 (some n25) → 1 ≤ ((((((rc - 1) - 487) - 1) - 21) - 1) - 9) ∧ 5 ≤ ((((((rs - 10) - 69849) - 12) - 67035) - 9) - 11155) ∧ (∀ n36, n36 = g_b G + x_n M33 → ∀ M37, M37 = x_new M33 n36 16 0 → 1 ≤ (((((((rc - 1) - 487) - 1) - 21) - 1) - 9) - 1) ∧ 50 ≤ (((((((rs - 10) - 69849) - 12) - 67035) - 9) - 11155) - 5) ∧ Call G d 1 50 mX0_init [.ref n36] M37 (fun r41 M42 => r41 = none ∧ (x_h M42 p0).1 = 27 ∧ (∀ M44, M44 = x_sr M42 p0 10 (some n36) → ∀ M45, M45 = x_si M44 p0 11 2 → ∀ M46, M46 = x_si M45 p0 12 0 → ∀ M47, M47 = x_si M46 p0 13 0 → ∀ M48, M48 = x_si M47 p0 14 0 → LX11_init_130 G d ((((((((rc - 1) - 487) - 1) - 21) - 1) - 9) - 1) - 1) ((((((((rs - 10) - 69849) - 12) - 67035) - 9) - 11155) - 5) - 50) p0 M48 Q))))))))))))) : LX11_init_66 G d rc rs p0 M Q := by
  show Wk G (d + 1) rc rs mX11_init 66 _ _ M Q
  refine r_aload_n (pc := 66) (i := 0) dX11_init_66 rfl rfl ?_
  obtain ⟨y1, y2, h⟩ := h
  refine r_newV (pc := 67) (ci := 5) (q := (RX5, TX5, 10)) dX11_init_67 rfl ww_36 ww_37 ww_2 y1 y2 (fun n3 M4 enn3 eMn3 e5 => ?_)
  replace h := h n3 enn3 M4 eMn3
  refine r_dup (pc := 70) dX11_init_70 rfl ?_
  obtain ⟨y6, y7, h⟩ := h
  refine r_callI (pc := 71) (as := []) (st := [_, _]) okX5_init lkX11_41 inX5_init rfl dX11_init_71 rfl (Nat.le_of_ble_eq_true rfl) y6 y7 (Call.mono h (fun r8 M9 h => ?_))
  obtain ⟨rfl, h⟩ := h
  obtain ⟨k10, h⟩ := h
  refine r_putr (pc := 74) (r := some _) flX11_42 dX11_init_74 rfl (fun q hq => by cases hq; exact Or.inr ⟨rfl, rfl, rfl⟩) (fun q hq _ => by cases hq; exact ww_426) k10 ?_
  replace h := h _ rfl
  refine r_aload_n (pc := 77) (i := 0) dX11_init_77 rfl rfl ?_
  obtain ⟨y12, y13, h⟩ := h
  refine r_newV (pc := 78) (ci := 10) (q := (RX10, TX10, 12)) dX11_init_78 rfl ww_210 ww_211 ww_7 y12 y13 (fun n14 M15 enn14 eMn14 e16 => ?_)
  replace h := h n14 enn14 M15 eMn14
  refine r_dup (pc := 81) dX11_init_81 rfl ?_
  obtain ⟨y17, y18, h⟩ := h
  refine r_callI (pc := 82) (as := []) (st := [_, _]) okX10_init lkX11_48 inX10_init rfl dX11_init_82 rfl (Nat.le_of_ble_eq_true rfl) y17 y18 (Call.mono h (fun r19 M20 h => ?_))
  obtain ⟨rfl, h⟩ := h
  obtain ⟨k21, h⟩ := h
  refine r_putr (pc := 85) (r := some _) flX11_49 dX11_init_85 rfl (fun q hq => by cases hq; exact Or.inr ⟨rfl, rfl, rfl⟩) (fun q hq _ => by cases hq; exact ww_427) k21 ?_
  replace h := h _ rfl
  refine r_aload_n (pc := 88) (i := 0) dX11_init_88 rfl rfl ?_
  obtain ⟨y23, y24, h⟩ := h
  refine r_newV (pc := 89) (ci := 6) (q := (RX6, TX6, 9)) dX11_init_89 rfl ww_295 ww_296 ww_9 y23 y24 (fun n25 M26 enn25 eMn25 e27 => ?_)
  replace h := h n25 enn25 M26 eMn25
  refine r_dup (pc := 92) dX11_init_92 rfl ?_
  obtain ⟨y28, y29, h⟩ := h
  refine r_callI (pc := 93) (as := []) (st := [_, _]) okX6_init lkX11_55 inX6_init rfl dX11_init_93 rfl (Nat.le_of_ble_eq_true rfl) y28 y29 (Call.mono h (fun r30 M31 h => ?_))
  obtain ⟨rfl, h⟩ := h
  obtain ⟨k32, h⟩ := h
  refine r_putr (pc := 96) (r := some _) flX11_56 dX11_init_96 rfl (fun q hq => by cases hq; exact Or.inr ⟨rfl, rfl, rfl⟩) (fun q hq _ => by cases hq; exact ww_428) k32 ?_
  replace h := h _ rfl
  refine r_aload_n (pc := 99) (i := 0) dX11_init_99 rfl rfl ?_
  obtain ⟨y34, y35, h⟩ := h
  refine r_newV (pc := 100) (ci := 0) (q := (RX0, TX0, 5)) dX11_init_100 rfl ww_329 ww_330 ww_10 y34 y35 (fun n36 M37 enn36 eMn36 e38 => ?_)
  replace h := h n36 enn36 M37 eMn36
  refine r_dup (pc := 103) dX11_init_103 rfl ?_
  obtain ⟨y39, y40, h⟩ := h
  refine r_callI (pc := 104) (as := []) (st := [_, _]) okX0_init lkX11_62 inX0_init rfl dX11_init_104 rfl (Nat.le_of_ble_eq_true rfl) y39 y40 (Call.mono h (fun r41 M42 h => ?_))
  obtain ⟨rfl, h⟩ := h
  obtain ⟨k43, h⟩ := h
  refine r_putr (pc := 107) (r := some _) flX11_63 dX11_init_107 rfl (fun q hq => by cases hq; exact Or.inr ⟨rfl, rfl, rfl⟩) (fun q hq _ => by cases hq; exact ww_429) k43 ?_
  replace h := h _ rfl
  refine r_aload_n (pc := 110) (i := 0) dX11_init_110 rfl rfl ?_
  refine r_iconst (pc := 111) (v := 2) dX11_init_111 (by decide) ?_
  refine r_puti (pc := 112) flX11_67 dX11_init_112 (Or.inl rfl) (fun q hq => by cases hq; rfl) k43 ?_
  replace h := h _ rfl
  refine r_aload_n (pc := 115) (i := 0) dX11_init_115 rfl rfl ?_
  refine r_iconst (pc := 116) (v := 0) dX11_init_116 (by decide) ?_
  refine r_puti (pc := 117) flX11_71 dX11_init_117 (Or.inl rfl) (fun q hq => by cases hq; rfl) k43 ?_
  replace h := h _ rfl
  refine r_aload_n (pc := 120) (i := 0) dX11_init_120 rfl rfl ?_
  refine r_iconst (pc := 121) (v := 0) dX11_init_121 (by decide) ?_
  refine r_puti (pc := 122) flX11_74 dX11_init_122 (Or.inl rfl) (fun q hq => by cases hq; rfl) k43 ?_
  replace h := h _ rfl
  refine r_aload_n (pc := 125) (i := 0) dX11_init_125 rfl rfl ?_
  refine r_iconst (pc := 126) (v := 0) dX11_init_126 (by decide) ?_
  refine r_puti (pc := 127) flX11_77 dX11_init_127 (Or.inl rfl) (fun q hq => by cases hq; rfl) k43 ?_
  replace h := h _ rfl
  exact h
theorem vX11_init_130 {G : GG} {d rc rs : Nat} (p0 : Nat)  {M : Mem} {Q : Option Value → Mem → Prop} (h : (x_h M p0).1 = 27 ∧ (∀ M2, M2 = x_si M p0 15 0 → LX11_init_137 G d rc rs p0 0 M2 Q)) : LX11_init_130 G d rc rs p0 M Q := by
  show Wk G (d + 1) rc rs mX11_init 130 _ _ M Q
  refine r_aload_n (pc := 130) (i := 0) dX11_init_130 rfl rfl ?_
  refine r_iconst (pc := 131) (v := 0) dX11_init_131 (by decide) ?_
  obtain ⟨k1, h⟩ := h
  refine r_puti (pc := 132) flX11_80 dX11_init_132 (Or.inl rfl) (fun q hq => by cases hq; rfl) k1 ?_
  replace h := h _ rfl
  refine r_iconst (pc := 135) (v := 0) dX11_init_135 (by decide) ?_
  refine r_istore_n (pc := 136) (i := 1) dX11_init_136 rfl rfl (Nat.le_of_ble_eq_true rfl) ?_
  exact h
theorem vX11_init_137 {G : GG} {d rc rs : Nat} (p0 : Nat) (x1 : Int32)  {M : Mem} {Q : Option Value → Mem → Prop} (h : (10 ≤ x1 → (x_h M p0).1 = 27 ∧ (∃ b3, x_r M p0 4 = some b3 ∧ Call G d 0 0 mJ7_fill_53178 [.ref b3, .int (-1)] M (fun r4 M5 => r4 = none ∧ LX11_init_183 G d rc rs p0 x1 M5 Q))) ∧ (¬ 10 ≤ x1 → (x_h M p0).1 = 27 ∧ (∃ b7, x_r M p0 0 = some b7 ∧ 1 ≤ rc ∧ 3 ≤ rs ∧ (∀ n10, n10 = g_b G + x_n M → ∀ M11, M11 = x_new M n10 23 0 → 3 ≤ (rc - 1) ∧ 244 ≤ (rs - 3) ∧ Call G d 3 244 mX7_init [.ref n10] M11 (fun r15 M16 => r15 = none ∧ (x_h M16 b7).1 = 4 ∧ (x_h M16 n10).1 = 23 ∧ vp_in x1 (x_h M16 b7).2 ∧ (∀ M20, M20 = x_sr M16 b7 x1.toNatClampNeg (some n10) → (x_h M16 p0).1 = 27 ∧ (∃ b22, x_r M20 p0 1 = some b22 ∧ 1 ≤ ((rc - 1) - 3) ∧ 7 ≤ ((rs - 3) - 244) ∧ (∀ n25, n25 = g_b G + x_n M20 → ∀ M26, M26 = x_new M20 n25 20 0 → 3 ≤ (((rc - 1) - 3) - 1) ∧ 1124 ≤ (((rs - 3) - 244) - 7) ∧ Call G d 3 1124 mX4_init [.ref n25] M26 (fun r30 M31 => r30 = none ∧ (x_h M31 b22).1 = 5 ∧ (x_h M31 n25).1 = 20 ∧ vp_in x1 (x_h M31 b22).2 ∧ (∀ M35, M35 = x_sr M31 b22 x1.toNatClampNeg (some n25) → LX11_init_137 G d ((((rc - 1) - 3) - 1) - 3) ((((rs - 3) - 244) - 7) - 1124) p0 (x1 + 1) M35 Q)))))))))) : LX11_init_137 G d rc rs p0 x1 M Q := by
  show Wk G (d + 1) rc rs mX11_init 137 _ _ M Q
  refine r_iload_n (pc := 137) (i := 1) dX11_init_137 rfl rfl ?_
  refine r_bipush (pc := 138) (v := 10) dX11_init_138 (by decide) ?_
  refine r_icmp_ge (pc := 140) (tgt := 175) dX11_init_140 (by decide) (fun c1 => ?_) (fun c1 => ?_)
  · replace h := h.1 c1
    refine r_aload_n (pc := 175) (i := 0) dX11_init_175 rfl rfl ?_
    obtain ⟨k2, h⟩ := h
    obtain ⟨b3, hb3, h⟩ := h
    refine r_getr (pc := 176) flX11_30 dX11_init_176 rfl k2 hb3 ?_
    refine r_iconst (pc := 179) (v := (-1)) dX11_init_179 (by decide) ?_
    refine r_callS (pc := 180) (as := [_, _]) (st := []) okJ7_fill_53178 lkX11_85 stJ7_fill_53178 dX11_init_180 rfl (Nat.le_of_ble_eq_true rfl) (Nat.zero_le _) (Nat.zero_le _) (Call.mono h (fun r4 M5 h => ?_))
    obtain ⟨rfl, h⟩ := h
    exact h
  · replace h := h.2 c1
    refine r_aload_n (pc := 143) (i := 0) dX11_init_143 rfl rfl ?_
    obtain ⟨k6, h⟩ := h
    obtain ⟨b7, hb7, h⟩ := h
    refine r_getr (pc := 144) flX11_11 dX11_init_144 rfl k6 hb7 ?_
    refine r_iload_n (pc := 147) (i := 1) dX11_init_147 rfl rfl ?_
    obtain ⟨y8, y9, h⟩ := h
    refine r_newV (pc := 148) (ci := 7) (q := (RX7, TX7, 3)) dX11_init_148 rfl ww_30 ww_353 ww_11 y8 y9 (fun n10 M11 enn10 eMn10 e12 => ?_)
    replace h := h n10 enn10 M11 eMn10
    refine r_dup (pc := 151) dX11_init_151 rfl ?_
    obtain ⟨y13, y14, h⟩ := h
    refine r_callI (pc := 152) (as := []) (st := [_, _, _]) okX7_init lkX11_83 inX7_init rfl dX11_init_152 rfl (Nat.le_of_ble_eq_true rfl) y13 y14 (Call.mono h (fun r15 M16 h => ?_))
    obtain ⟨rfl, h⟩ := h
    obtain ⟨k17, h⟩ := h
    obtain ⟨k18, h⟩ := h
    obtain ⟨i19, h⟩ := h
    refine r_aast (pc := 155) (ci := 7) dX11_init_155 k17 (by decide) rfl rfl k18 i19 ?_
    replace h := h _ rfl
    refine r_aload_n (pc := 156) (i := 0) dX11_init_156 rfl rfl ?_
    obtain ⟨k21, h⟩ := h
    obtain ⟨b22, hb22, h⟩ := h
    refine r_getr (pc := 157) flX11_17 dX11_init_157 rfl k21 hb22 ?_
    refine r_iload_n (pc := 160) (i := 1) dX11_init_160 rfl rfl ?_
    obtain ⟨y23, y24, h⟩ := h
    refine r_newV (pc := 161) (ci := 4) (q := (RX4, TX4, 7)) dX11_init_161 rfl ww_32 ww_375 ww_12 y23 y24 (fun n25 M26 enn25 eMn25 e27 => ?_)
    replace h := h n25 enn25 M26 eMn25
    refine r_dup (pc := 164) dX11_init_164 rfl ?_
    obtain ⟨y28, y29, h⟩ := h
    refine r_callI (pc := 165) (as := []) (st := [_, _, _]) okX4_init lkX11_84 inX4_init rfl dX11_init_165 rfl (Nat.le_of_ble_eq_true rfl) y28 y29 (Call.mono h (fun r30 M31 h => ?_))
    obtain ⟨rfl, h⟩ := h
    obtain ⟨k32, h⟩ := h
    obtain ⟨k33, h⟩ := h
    obtain ⟨i34, h⟩ := h
    refine r_aast (pc := 168) (ci := 4) dX11_init_168 k32 (by decide) rfl rfl k33 i34 ?_
    replace h := h _ rfl
    refine r_iinc (pc := 169) (i := 1) (v := _ + 1) dX11_init_169 rfl rfl rfl ?_
    refine r_goto (pc := 172) (tgt := 137) dX11_init_172 (by decide) ?_
    exact h
theorem vX11_init_183 {G : GG} {d rc rs : Nat} (p0 : Nat) (x1 : Int32)  {M : Mem} {Q : Option Value → Mem → Prop} (h : Q none M) : LX11_init_183 G d rc rs p0 x1 M Q := by
  show Wk G (d + 1) rc rs mX11_init 183 _ _ M Q
  exact r_vret (pc := 183) dX11_init_183 rfl h
