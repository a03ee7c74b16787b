/-! ===== constructors: plain kinds ===== -/
section KindsC
variable {G : GG} {M M0 : Mem} {o rc rs : Nat} {Q : Option Value → Mem → Prop}
theorem kk_least (d : Nat) {a f : Nat} (hN : g_b G + x_n M = o + 1) (ho : (x_h M o).1 = 17) (ha : a ≤ 100) (hf : f ≤ 100) (hrc : 2 ≤ rc) (hrs : a * f + a ≤ rs) (hQ : ∀ M', g_b G + x_n M' = o + 3 → Gw M M' o → LeS M' o (o + 1) (o + 2) (a * f) a → Q none M') : Call G (d + 1) rc rs mX1_init [.ref o, .int (nI a), .int (nI f)] M Q := by
  have haf : a * f ≤ 10000 := Nat.mul_le_mul ha hf
  refine eX1_init o _ _ ⟨ho, ?_⟩
  intro M2 e2 M3 e3
  have pz0 := ((Pz.start (G := G) (M := M) (o := o) (c := 1) hN).si (by omega) (k := 2) (v := 0)).si (by omega) (k := 3) (v := 1)
  rw [← e2, ← e3] at pz0
  clear e2 e3 M2
  rw [s_mul, nI_clamp (by omega), nI_clamp (by omega)]
  refine ⟨nI_pos (by omega), by omega, by omega, by omega, ?_⟩
  intro n e M5 e5
  refine ⟨by rw [e5, pz0.hd (by omega) e]; exact ho, ?_⟩
  intro M12 e12
  have pz1 := pz0.step (by omega) e (f := 0) (kd := 1) (ln := a * f) (by simp)
  rw [← e5, ← e12] at pz1
  clear e12 e5 e M5 n
  refine ⟨nI_pos (by omega), by omega, by omega, by omega, ?_⟩
  intro n e M14 e14
  refine ⟨by rw [e14, pz1.hd (by omega) e]; exact ho, ?_⟩
  intro M21 e21
  have pz2 := pz1.step (by omega) e (f := 1) (kd := 1) (ln := a) (by simp)
  rw [← e14, ← e21] at pz2
  exact hQ _ pz2.1 pz2.gw ⟨by rw [pz2.2.1]; exact ho, pz2.r 0 rfl, pz2.r 1 rfl, pz2.h 0 rfl, pz2.h 1 rfl, by omega, by omega, by omega, by omega, by omega⟩
theorem kk_side (d : Nat) (hN : g_b G + x_n M = o + 1) (ho : (x_h M o).1 = 24) (hrc : 1 ≤ rc) (hrs : 8 ≤ rs) (hQ : ∀ M', g_b G + x_n M' = o + 2 → Gw M M' o → SiS M' o → Q none M') : Call G (d + 1) rc rs mX8_init [.ref o] M Q := by
  refine eX8_init o ?_
  have pz0 := Pz.start (G := G) (M := M) (o := o) (c := 1) hN
  refine ⟨by omega, by omega, ?_⟩
  intro n e M2 e2
  refine ⟨by rw [e2, pz0.hd (by omega) e]; exact ho, ?_⟩
  intro M3 e3
  have pz1 := pz0.step (by omega) e (f := 0) (kd := 1) (ln := 8) (by simp)
  rw [← e2, ← e3] at pz1
  clear e3 e2 e M2 n
  intro M4 e4
  have py0 := pz1.si (by omega) (k := 1) (v := -1)
  rw [← e4] at py0
  clear e4
  intro M4 e4
  have py1 := py0.si (by omega) (k := 2) (v := 0)
  rw [← e4] at py1
  clear e4
  intro M4 e4
  have py2 := py1.si (by omega) (k := 3) (v := 0)
  rw [← e4] at py2
  clear e4
  have pe := py2
  exact hQ _ pe.1 pe.gw ⟨by rw [pe.2.1]; exact ho, pe.r 0 rfl, pe.h 0 rfl⟩
theorem kk_acts (d : Nat) (hN : g_b G + x_n M = o + 1) (ho : (x_h M o).1 = 16) (hrc : 1 ≤ rc) (hrs : 50 ≤ rs) (hQ : ∀ M', g_b G + x_n M' = o + 2 → Gw M M' o → ((x_h M' o).1 = 16 ∧ x_r M' o 0 = some (o + 1) ∧ x_h M' (o + 1) = (1, 50) ∧ x_i M' o 1 = 0) → Q none M') : Call G (d + 1) rc rs mX0_init [.ref o] M Q := by
  refine eX0_init o ?_
  have pz0 := Pz.start (G := G) (M := M) (o := o) (c := 1) hN
  refine ⟨by omega, by omega, ?_⟩
  intro n e M2 e2
  refine ⟨by rw [e2, pz0.hd (by omega) e]; exact ho, ?_⟩
  intro M3 e3
  have pz1 := pz0.step (by omega) e (f := 0) (kd := 1) (ln := 50) (by simp)
  rw [← e2, ← e3] at pz1
  clear e3 e2 e M2 n
  intro M4 e4
  have py0 := pz1.si (by omega) (k := 1) (v := 0)
  rw [← e4] at py0
  clear e4
  intro M4 e4
  have py1 := py0.si (by omega) (k := 2) (v := 0)
  rw [← e4] at py1
  clear e4
  intro M4 e4
  have py2 := py1.si (by omega) (k := 3) (v := 0)
  rw [← e4] at py2
  clear e4
  intro M4 e4
  have py3 := py2.si (by omega) (k := 4) (v := 0)
  rw [← e4] at py3
  clear e4
  have pe := py3
  exact hQ _ pe.1 pe.gw ⟨by rw [pe.2.1]; exact ho, pe.r 0 rfl, pe.h 0 rfl, by rw [pe.2.2.1]; simp⟩
theorem kk_loom (d : Nat) (hN : g_b G + x_n M = o + 1) (ho : (x_h M o).1 = 18) (hrc : 7 ≤ rc) (hrs : 64800 ≤ rs) (hQ : ∀ M', g_b G + x_n M' = o + 8 → Gw M M' o → LoS M' o → Q none M') : Call G (d + 1) rc rs mX2_init [.ref o] M Q := by
  refine eX2_init o ?_
  have pz0 := Pz.start (G := G) (M := M) (o := o) (c := 1) hN
  refine ⟨by omega, by omega, ?_⟩
  intro n e M2 e2
  refine ⟨by rw [e2, pz0.hd (by omega) e]; exact ho, ?_⟩
  intro M3 e3
  have pz1 := pz0.step (by omega) e (f := 0) (kd := 1) (ln := 3600) (by simp)
  rw [← e2, ← e3] at pz1
  clear e3 e2 e M2 n
  refine ⟨by omega, by omega, ?_⟩
  intro n e M2 e2
  refine ⟨by rw [e2, pz1.hd (by omega) e]; exact ho, ?_⟩
  intro M3 e3
  have pz2 := pz1.step (by omega) e (f := 1) (kd := 1) (ln := 3600) (by simp)
  rw [← e2, ← e3] at pz2
  clear e3 e2 e M2 n
  refine ⟨by omega, by omega, ?_⟩
  intro n e M2 e2
  refine ⟨by rw [e2, pz2.hd (by omega) e]; exact ho, ?_⟩
  intro M3 e3
  have pz3 := pz2.step (by omega) e (f := 2) (kd := 1) (ln := 3600) (by simp)
  rw [← e2, ← e3] at pz3
  clear e3 e2 e M2 n
  refine ⟨by omega, by omega, ?_⟩
  intro n e M2 e2
  refine ⟨by rw [e2, pz3.hd (by omega) e]; exact ho, ?_⟩
  intro M3 e3
  have pz4 := pz3.step (by omega) e (f := 3) (kd := 1) (ln := 43200) (by simp)
  rw [← e2, ← e3] at pz4
  clear e3 e2 e M2 n
  refine ⟨by omega, by omega, ?_⟩
  intro n e M2 e2
  refine ⟨by rw [e2, pz4.hd (by omega) e]; exact ho, ?_⟩
  intro M3 e3
  have pz5 := pz4.step (by omega) e (f := 4) (kd := 1) (ln := 3600) (by simp)
  rw [← e2, ← e3] at pz5
  clear e3 e2 e M2 n
  refine ⟨by omega, by omega, ?_⟩
  intro n e M2 e2
  refine ⟨by rw [e2, pz5.hd (by omega) e]; exact ho, ?_⟩
  intro M3 e3
  have pz6 := pz5.step (by omega) e (f := 5) (kd := 1) (ln := 3600) (by simp)
  rw [← e2, ← e3] at pz6
  clear e3 e2 e M2 n
  refine ⟨by omega, by omega, ?_⟩
  intro n e M2 e2
  refine ⟨by rw [e2, pz6.hd (by omega) e]; exact ho, ?_⟩
  intro M3 e3
  have pz7 := pz6.step (by omega) e (f := 6) (kd := 1) (ln := 3600) (by simp)
  rw [← e2, ← e3] at pz7
  clear e3 e2 e M2 n
  intro M4 e4
  have py0 := pz7.si (by omega) (k := 7) (v := 0)
  rw [← e4] at py0
  clear e4
  intro M4 e4
  have py1 := py0.si (by omega) (k := 8) (v := 1)
  rw [← e4] at py1
  clear e4
  intro M4 e4
  have py2 := py1.si (by omega) (k := 9) (v := 0)
  rw [← e4] at py2
  clear e4
  have pe := py2
  exact hQ _ pe.1 pe.gw ⟨by rw [pe.2.1]; exact ho, pe.r 0 rfl, pe.r 1 rfl, pe.r 2 rfl, pe.r 3 rfl, pe.r 4 rfl, pe.r 5 rfl, pe.r 6 rfl, pe.h 0 rfl, pe.h 1 rfl, pe.h 2 rfl, pe.h 3 rfl, pe.h 4 rfl, pe.h 5 rfl, pe.h 6 rfl⟩
theorem kk_reck (d : Nat) (hN : g_b G + x_n M = o + 1) (ho : (x_h M o).1 = 22) (hrc : 9 ≤ rc) (hrs : 11155 ≤ rs) (hQ : ∀ M', g_b G + x_n M' = o + 10 → Gw M M' o → RkS M' o → Q none M') : Call G (d + 1) rc rs mX6_init [.ref o] M Q := by
  refine eX6_init o ?_
  have pz0 := Pz.start (G := G) (M := M) (o := o) (c := 1) hN
  refine ⟨by omega, by omega, ?_⟩
  intro n e M2 e2
  refine ⟨by rw [e2, pz0.hd (by omega) e]; exact ho, ?_⟩
  intro M3 e3
  have pz1 := pz0.step (by omega) e (f := 0) (kd := 1) (ln := 3600) (by simp)
  rw [← e2, ← e3] at pz1
  clear e3 e2 e M2 n
  refine ⟨by omega, by omega, ?_⟩
  intro n e M2 e2
  refine ⟨by rw [e2, pz1.hd (by omega) e]; exact ho, ?_⟩
  intro M3 e3
  have pz2 := pz1.step (by omega) e (f := 1) (kd := 1) (ln := 3600) (by simp)
  rw [← e2, ← e3] at pz2
  clear e3 e2 e M2 n
  refine ⟨by omega, by omega, ?_⟩
  intro n e M2 e2
  refine ⟨by rw [e2, pz2.hd (by omega) e]; exact ho, ?_⟩
  intro M3 e3
  have pz3 := pz2.step (by omega) e (f := 2) (kd := 2) (ln := 3600) (by simp)
  rw [← e2, ← e3] at pz3
  clear e3 e2 e M2 n
  refine ⟨by omega, by omega, ?_⟩
  intro n e M2 e2
  refine ⟨by rw [e2, pz3.hd (by omega) e]; exact ho, ?_⟩
  intro M3 e3
  have pz4 := pz3.step (by omega) e (f := 3) (kd := 2) (ln := 106) (by simp)
  rw [← e2, ← e3] at pz4
  clear e3 e2 e M2 n
  refine ⟨by omega, by omega, ?_⟩
  intro n e M2 e2
  refine ⟨by rw [e2, pz4.hd (by omega) e]; exact ho, ?_⟩
  intro M3 e3
  have pz5 := pz4.step (by omega) e (f := 4) (kd := 1) (ln := 64) (by simp)
  rw [← e2, ← e3] at pz5
  clear e3 e2 e M2 n
  refine ⟨by omega, by omega, ?_⟩
  intro n e M2 e2
  refine ⟨by rw [e2, pz5.hd (by omega) e]; exact ho, ?_⟩
  intro M3 e3
  have pz6 := pz5.step (by omega) e (f := 5) (kd := 1) (ln := 65) (by simp)
  rw [← e2, ← e3] at pz6
  clear e3 e2 e M2 n
  refine ⟨by omega, by omega, ?_⟩
  intro n e M2 e2
  refine ⟨by rw [e2, pz6.hd (by omega) e]; exact ho, ?_⟩
  intro M3 e3
  have pz7 := pz6.step (by omega) e (f := 6) (kd := 2) (ln := 40) (by simp)
  rw [← e2, ← e3] at pz7
  clear e3 e2 e M2 n
  refine ⟨by omega, by omega, ?_⟩
  intro n e M2 e2
  refine ⟨by rw [e2, pz7.hd (by omega) e]; exact ho, ?_⟩
  intro M3 e3
  have pz8 := pz7.step (by omega) e (f := 7) (kd := 2) (ln := 40) (by simp)
  rw [← e2, ← e3] at pz8
  clear e3 e2 e M2 n
  refine ⟨by omega, by omega, ?_⟩
  intro n e M2 e2
  refine ⟨by rw [e2, pz8.hd (by omega) e]; exact ho, ?_⟩
  intro M3 e3
  have pz9 := pz8.step (by omega) e (f := 8) (kd := 2) (ln := 40) (by simp)
  rw [← e2, ← e3] at pz9
  clear e3 e2 e M2 n
  have pe := pz9
  have hk : ∀ k, k < 9 → x_r M3 o k = some (o + 1 + k) := fun k hk => by
    match k, hk with
    | 0, _ => exact pe.r 0 rfl
    | 1, _ => exact pe.r 1 rfl
    | 2, _ => exact pe.r 2 rfl
    | 3, _ => exact pe.r 3 rfl
    | 4, _ => exact pe.r 4 rfl
    | 5, _ => exact pe.r 5 rfl
    | 6, _ => exact pe.r 6 rfl
    | 7, _ => exact pe.r 7 rfl
    | 8, _ => exact pe.r 8 rfl
    | k + 9, h => exact absurd h (by omega)
  exact hQ _ pe.1 pe.gw ⟨by rw [pe.2.1]; exact ho, hk, pe.h 0 rfl, pe.h 1 rfl, pe.h 2 rfl, pe.h 3 rfl, pe.h 4 rfl, pe.h 5 rfl, pe.h 6 rfl, pe.h 7 rfl, pe.h 8 rfl⟩
theorem kk_tok (d : Nat) (hN : g_b G + x_n M = o + 1) (ho : (x_h M o).1 = 25) (hrc : 4 ≤ rc) (hrs : 363 ≤ rs) (hQ : ∀ M', g_b G + x_n M' = o + 5 → Gw M M' o → TokS M' o → Q none M') : Call G (d + 1) rc rs mX9_init [.ref o] M Q := by
  refine eX9_init o ?_
  have pz0 := Pz.start (G := G) (M := M) (o := o) (c := 1) hN
  refine ⟨by omega, by omega, ?_⟩
  intro n e M2 e2
  refine ⟨by rw [e2, pz0.hd (by omega) e]; exact ho, ?_⟩
  intro M3 e3
  have pz1 := pz0.step (by omega) e (f := 0) (kd := 1) (ln := 121) (by simp)
  rw [← e2, ← e3] at pz1
  clear e3 e2 e M2 n
  refine ⟨by omega, by omega, ?_⟩
  intro n e M2 e2
  refine ⟨by rw [e2, pz1.hd (by omega) e]; exact ho, ?_⟩
  intro M3 e3
  have pz2 := pz1.step (by omega) e (f := 1) (kd := 1) (ln := 121) (by simp)
  rw [← e2, ← e3] at pz2
  clear e3 e2 e M2 n
  refine ⟨by omega, by omega, ?_⟩
  intro n e M2 e2
  refine ⟨by rw [e2, pz2.hd (by omega) e]; exact ho, ?_⟩
  intro M3 e3
  have pz3 := pz2.step (by omega) e (f := 2) (kd := 1) (ln := 121) (by simp)
  rw [← e2, ← e3] at pz3
  clear e3 e2 e M2 n
  refine ⟨by omega, by omega, ?_⟩
  intro n e M2 e2
  refine ⟨by rw [e2, pz3.hd (by omega) e]; exact ho, ?_⟩
  intro M3 e3
  have pz4 := pz3.step (by omega) e (f := 3) (kd := 1) (ln := 0) (by simp)
  rw [← e2, ← e3] at pz4
  clear e3 e2 e M2 n
  intro M4 e4
  have py0 := pz4.si (by omega) (k := 4) (v := 0)
  rw [← e4] at py0
  clear e4
  intro M4 e4
  have py1 := py0.si (by omega) (k := 5) (v := 0)
  rw [← e4] at py1
  clear e4
  have pe := py1
  exact hQ _ pe.1 pe.gw ⟨by rw [pe.2.1]; exact ho, pe.r 0 rfl, pe.r 1 rfl, pe.r 2 rfl, pe.h 0 rfl, pe.h 1 rfl, pe.h 2 rfl⟩
end KindsC
