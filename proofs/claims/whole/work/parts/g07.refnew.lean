/-! ===== the reference's constructor ===== -/
section RefNew
variable {G : GG} {M M' M0 : Mem} {m o rc rs n k : Nat} {F : Nat → Int32} {Q : Option Value → Mem → Prop}
def rlT : List (Nat × Nat × Nat) := [(2, 1, 10), (3, 1, 10), (4, 1, 1800), (5, 1, 600), (6, 1, 10), (8, 1, 10), (9, 1, 10), (10, 1, 10), (11, 1, 10), (12, 1, 10), (13, 1, 10), (14, 1, 10), (15, 1, 10800), (16, 3, 400), (17, 1, 120), (19, 1, 6), (20, 1, 6), (21, 1, 240), (23, 1, 50), (27, 1, 226800), (28, 1, 8400), (30, 1, 8400), (31, 1, 8400), (32, 1, 32768), (33, 1, 8400), (34, 1, 8400), (35, 1, 3600), (36, 1, 8400), (37, 1, 8400), (48, 1, 130), (49, 1, 130), (50, 1, 130), (51, 1, 130), (52, 1, 130), (53, 1, 130), (54, 1, 1040), (55, 1, 130), (56, 1, 130), (57, 1, 130), (58, 1, 130), (59, 1, 130), (60, 1, 130), (61, 1, 130), (62, 1, 130), (63, 1, 130), (64, 1, 130), (65, 1, 8), (73, 1, 130), (74, 1, 140400), (75, 3, 5200), (76, 2, 302), (77, 1, 8400), (80, 1, 2160), (81, 1, 80), (82, 1, 2), (83, 1, 33600), (84, 1, 4), (85, 1, 330), (86, 2, 8400), (87, 3, 4440), (88, 1, 111), (89, 2, 40), (90, 2, 40), (91, 3, 40)]
theorem Pz.rlt (h : Pz G M0 M o 1 F (rlT.take k)) (hn : n = g_b G + x_n M) {f kd ln : Nat} (hk : rlT[k]? = some (f, kd, ln)) (hf : ∀ x ∈ rlT.take k, x.1 ≠ f) : Pz G M0 (x_sr (x_new M n kd ln) o f (some n)) o 1 F (rlT.take (k + 1)) := by
  have h1 := h.step (by omega) hn (f := f) (kd := kd) (ln := ln) hf
  have e : rlT.take (k + 1) = rlT.take k ++ [(f, kd, ln)] := by rw [List.take_add_one, hk]; rfl
  rw [e]
  exact h1
theorem ux_0 (d : Nat) (hN : g_b G + x_n M0 = m + 1) (ho : (x_h M0 m).1 = 28) (hrc : rc = 64) (hrs : rs = 542897) (hQ : ∀ rc rs M', rc = 58 → rs = 540457 → Pz G M0 M' m 1 (fun j => if j = 0 then 2 else x_i M0 m j) (rlT.take 6) → LX12_init_59 G d rc rs m M' Q) : Call G (d + 1) rc rs mX12_init [.ref m] M0 Q := by
  refine eX12_init m ⟨ho, ?_⟩
  intro M e1
  have pz0 : Pz G M0 M m 1 (fun j => if j = 0 then 2 else x_i M0 m j) (rlT.take 0) := by rw [e1]; exact (Pz.start (G := G) (M := M0) (o := m) (c := 1) hN).si (by omega)
  clear e1
  refine ⟨by omega, by omega, ?_⟩
  intro n e M2 e2
  refine ⟨by rw [e2, pz0.hd (by omega) e]; exact ho, ?_⟩
  intro M3 e3
  have pz1 := pz0.rlt e (f := 2) (kd := 1) (ln := 10) rfl (by decide)
  rw [← e2, ← e3] at pz1
  clear e3 e2 e M2 n pz0
  refine ⟨by omega, by omega, ?_⟩
  intro n e M2 e2
  refine ⟨by rw [e2, pz1.hd (by omega) e]; exact ho, ?_⟩
  intro M3 e3
  have pz2 := pz1.rlt e (f := 3) (kd := 1) (ln := 10) rfl (by decide)
  rw [← e2, ← e3] at pz2
  clear e3 e2 e M2 n pz1
  refine ⟨by omega, by omega, ?_⟩
  intro n e M2 e2
  refine ⟨by rw [e2, pz2.hd (by omega) e]; exact ho, ?_⟩
  intro M3 e3
  have pz3 := pz2.rlt e (f := 4) (kd := 1) (ln := 1800) rfl (by decide)
  rw [← e2, ← e3] at pz3
  clear e3 e2 e M2 n pz2
  refine ⟨by omega, by omega, ?_⟩
  intro n e M2 e2
  refine ⟨by rw [e2, pz3.hd (by omega) e]; exact ho, ?_⟩
  intro M3 e3
  have pz4 := pz3.rlt e (f := 5) (kd := 1) (ln := 600) rfl (by decide)
  rw [← e2, ← e3] at pz4
  clear e3 e2 e M2 n pz3
  refine ⟨by omega, by omega, ?_⟩
  intro n e M2 e2
  refine ⟨by rw [e2, pz4.hd (by omega) e]; exact ho, ?_⟩
  intro M3 e3
  have pz5 := pz4.rlt e (f := 6) (kd := 1) (ln := 10) rfl (by decide)
  rw [← e2, ← e3] at pz5
  clear e3 e2 e M2 n pz4
  refine ⟨by omega, by omega, ?_⟩
  intro n e M2 e2
  refine ⟨by rw [e2, pz5.hd (by omega) e]; exact ho, ?_⟩
  intro M3 e3
  have pz6 := pz5.rlt e (f := 8) (kd := 1) (ln := 10) rfl (by decide)
  rw [← e2, ← e3] at pz6
  clear e3 e2 e M2 n pz5
  exact hQ _ _ _ (by omega) (by omega) pz6
theorem ux_1 (d : Nat) (ho : (x_h M0 m).1 = 28) (pz6 : Pz G M0 M m 1 (fun j => if j = 0 then 2 else x_i M0 m j) (rlT.take 6)) (hrc : rc = 58) (hrs : rs = 540457) (hQ : ∀ rc rs M', rc = 50 → rs = 529197 → Pz G M0 M' m 1 (fun j => if j = 0 then 2 else x_i M0 m j) (rlT.take 14) → LX12_init_125 G d rc rs m M' Q) : LX12_init_59 G d rc rs m M Q := by
  refine vX12_init_59 _ ?_
  refine ⟨by omega, by omega, ?_⟩
  intro n e M2 e2
  refine ⟨by rw [e2, pz6.hd (by omega) e]; exact ho, ?_⟩
  intro M3 e3
  have pz7 := pz6.rlt e (f := 9) (kd := 1) (ln := 10) rfl (by decide)
  rw [← e2, ← e3] at pz7
  clear e3 e2 e M2 n pz6
  refine ⟨by omega, by omega, ?_⟩
  intro n e M2 e2
  refine ⟨by rw [e2, pz7.hd (by omega) e]; exact ho, ?_⟩
  intro M3 e3
  have pz8 := pz7.rlt e (f := 10) (kd := 1) (ln := 10) rfl (by decide)
  rw [← e2, ← e3] at pz8
  clear e3 e2 e M2 n pz7
  refine ⟨by omega, by omega, ?_⟩
  intro n e M2 e2
  refine ⟨by rw [e2, pz8.hd (by omega) e]; exact ho, ?_⟩
  intro M3 e3
  have pz9 := pz8.rlt e (f := 11) (kd := 1) (ln := 10) rfl (by decide)
  rw [← e2, ← e3] at pz9
  clear e3 e2 e M2 n pz8
  refine ⟨by omega, by omega, ?_⟩
  intro n e M2 e2
  refine ⟨by rw [e2, pz9.hd (by omega) e]; exact ho, ?_⟩
  intro M3 e3
  have pz10 := pz9.rlt e (f := 12) (kd := 1) (ln := 10) rfl (by decide)
  rw [← e2, ← e3] at pz10
  clear e3 e2 e M2 n pz9
  refine ⟨by omega, by omega, ?_⟩
  intro n e M2 e2
  refine ⟨by rw [e2, pz10.hd (by omega) e]; exact ho, ?_⟩
  intro M3 e3
  have pz11 := pz10.rlt e (f := 13) (kd := 1) (ln := 10) rfl (by decide)
  rw [← e2, ← e3] at pz11
  clear e3 e2 e M2 n pz10
  refine ⟨by omega, by omega, ?_⟩
  intro n e M2 e2
  refine ⟨by rw [e2, pz11.hd (by omega) e]; exact ho, ?_⟩
  intro M3 e3
  have pz12 := pz11.rlt e (f := 14) (kd := 1) (ln := 10) rfl (by decide)
  rw [← e2, ← e3] at pz12
  clear e3 e2 e M2 n pz11
  refine ⟨by omega, by omega, ?_⟩
  intro n e M2 e2
  refine ⟨by rw [e2, pz12.hd (by omega) e]; exact ho, ?_⟩
  intro M3 e3
  have pz13 := pz12.rlt e (f := 15) (kd := 1) (ln := 10800) rfl (by decide)
  rw [← e2, ← e3] at pz13
  clear e3 e2 e M2 n pz12
  refine ⟨by omega, by omega, ?_⟩
  intro n e M2 e2
  refine ⟨by rw [e2, pz13.hd (by omega) e]; exact ho, ?_⟩
  intro M3 e3
  have pz14 := pz13.rlt e (f := 16) (kd := 3) (ln := 400) rfl (by decide)
  rw [← e2, ← e3] at pz14
  clear e3 e2 e M2 n pz13
  exact hQ _ _ _ (by omega) (by omega) pz14
theorem ux_2 (d : Nat) (ho : (x_h M0 m).1 = 28) (pz14 : Pz G M0 M m 1 (fun j => if j = 0 then 2 else x_i M0 m j) (rlT.take 14)) (hrc : rc = 50) (hrs : rs = 529197) (hQ : ∀ rc rs M', rc = 42 → rs = 285175 → Pz G M0 M' m 1 (fun j => if j = 0 then 2 else x_i M0 m j) (rlT.take 22) → LX12_init_192 G d rc rs m M' Q) : LX12_init_125 G d rc rs m M Q := by
  refine vX12_init_125 _ ?_
  refine ⟨by omega, by omega, ?_⟩
  intro n e M2 e2
  refine ⟨by rw [e2, pz14.hd (by omega) e]; exact ho, ?_⟩
  intro M3 e3
  have pz15 := pz14.rlt e (f := 17) (kd := 1) (ln := 120) rfl (by decide)
  rw [← e2, ← e3] at pz15
  clear e3 e2 e M2 n pz14
  refine ⟨by omega, by omega, ?_⟩
  intro n e M2 e2
  refine ⟨by rw [e2, pz15.hd (by omega) e]; exact ho, ?_⟩
  intro M3 e3
  have pz16 := pz15.rlt e (f := 19) (kd := 1) (ln := 6) rfl (by decide)
  rw [← e2, ← e3] at pz16
  clear e3 e2 e M2 n pz15
  refine ⟨by omega, by omega, ?_⟩
  intro n e M2 e2
  refine ⟨by rw [e2, pz16.hd (by omega) e]; exact ho, ?_⟩
  intro M3 e3
  have pz17 := pz16.rlt e (f := 20) (kd := 1) (ln := 6) rfl (by decide)
  rw [← e2, ← e3] at pz17
  clear e3 e2 e M2 n pz16
  refine ⟨by omega, by omega, ?_⟩
  intro n e M2 e2
  refine ⟨by rw [e2, pz17.hd (by omega) e]; exact ho, ?_⟩
  intro M3 e3
  have pz18 := pz17.rlt e (f := 21) (kd := 1) (ln := 240) rfl (by decide)
  rw [← e2, ← e3] at pz18
  clear e3 e2 e M2 n pz17
  refine ⟨by omega, by omega, ?_⟩
  intro n e M2 e2
  refine ⟨by rw [e2, pz18.hd (by omega) e]; exact ho, ?_⟩
  intro M3 e3
  have pz19 := pz18.rlt e (f := 23) (kd := 1) (ln := 50) rfl (by decide)
  rw [← e2, ← e3] at pz19
  clear e3 e2 e M2 n pz18
  refine ⟨by omega, by omega, ?_⟩
  intro n e M2 e2
  refine ⟨by rw [e2, pz19.hd (by omega) e]; exact ho, ?_⟩
  intro M3 e3
  have pz20 := pz19.rlt e (f := 27) (kd := 1) (ln := 226800) rfl (by decide)
  rw [← e2, ← e3] at pz20
  clear e3 e2 e M2 n pz19
  refine ⟨by omega, by omega, ?_⟩
  intro n e M2 e2
  refine ⟨by rw [e2, pz20.hd (by omega) e]; exact ho, ?_⟩
  intro M3 e3
  have pz21 := pz20.rlt e (f := 28) (kd := 1) (ln := 8400) rfl (by decide)
  rw [← e2, ← e3] at pz21
  clear e3 e2 e M2 n pz20
  refine ⟨by omega, by omega, ?_⟩
  intro n e M2 e2
  refine ⟨by rw [e2, pz21.hd (by omega) e]; exact ho, ?_⟩
  intro M3 e3
  have pz22 := pz21.rlt e (f := 30) (kd := 1) (ln := 8400) rfl (by decide)
  rw [← e2, ← e3] at pz22
  clear e3 e2 e M2 n pz21
  exact hQ _ _ _ (by omega) (by omega) pz22
theorem ux_3 (d : Nat) (ho : (x_h M0 m).1 = 28) (pz22 : Pz G M0 M m 1 (fun j => if j = 0 then 2 else x_i M0 m j) (rlT.take 22)) (hrc : rc = 42) (hrs : rs = 285175) (hQ : ∀ rc rs M', rc = 34 → rs = 206677 → Pz G M0 M' m 1 (fun j => if j = 0 then 2 else x_i M0 m j) (rlT.take 30) → LX12_init_263 G d rc rs m M' Q) : LX12_init_192 G d rc rs m M Q := by
  refine vX12_init_192 _ ?_
  refine ⟨by omega, by omega, ?_⟩
  intro n e M2 e2
  refine ⟨by rw [e2, pz22.hd (by omega) e]; exact ho, ?_⟩
  intro M3 e3
  have pz23 := pz22.rlt e (f := 31) (kd := 1) (ln := 8400) rfl (by decide)
  rw [← e2, ← e3] at pz23
  clear e3 e2 e M2 n pz22
  refine ⟨by omega, by omega, ?_⟩
  intro n e M2 e2
  refine ⟨by rw [e2, pz23.hd (by omega) e]; exact ho, ?_⟩
  intro M3 e3
  have pz24 := pz23.rlt e (f := 32) (kd := 1) (ln := 32768) rfl (by decide)
  rw [← e2, ← e3] at pz24
  clear e3 e2 e M2 n pz23
  refine ⟨by omega, by omega, ?_⟩
  intro n e M2 e2
  refine ⟨by rw [e2, pz24.hd (by omega) e]; exact ho, ?_⟩
  intro M3 e3
  have pz25 := pz24.rlt e (f := 33) (kd := 1) (ln := 8400) rfl (by decide)
  rw [← e2, ← e3] at pz25
  clear e3 e2 e M2 n pz24
  refine ⟨by omega, by omega, ?_⟩
  intro n e M2 e2
  refine ⟨by rw [e2, pz25.hd (by omega) e]; exact ho, ?_⟩
  intro M3 e3
  have pz26 := pz25.rlt e (f := 34) (kd := 1) (ln := 8400) rfl (by decide)
  rw [← e2, ← e3] at pz26
  clear e3 e2 e M2 n pz25
  refine ⟨by omega, by omega, ?_⟩
  intro n e M2 e2
  refine ⟨by rw [e2, pz26.hd (by omega) e]; exact ho, ?_⟩
  intro M3 e3
  have pz27 := pz26.rlt e (f := 35) (kd := 1) (ln := 3600) rfl (by decide)
  rw [← e2, ← e3] at pz27
  clear e3 e2 e M2 n pz26
  refine ⟨by omega, by omega, ?_⟩
  intro n e M2 e2
  refine ⟨by rw [e2, pz27.hd (by omega) e]; exact ho, ?_⟩
  intro M3 e3
  have pz28 := pz27.rlt e (f := 36) (kd := 1) (ln := 8400) rfl (by decide)
  rw [← e2, ← e3] at pz28
  clear e3 e2 e M2 n pz27
  refine ⟨by omega, by omega, ?_⟩
  intro n e M2 e2
  refine ⟨by rw [e2, pz28.hd (by omega) e]; exact ho, ?_⟩
  intro M3 e3
  have pz29 := pz28.rlt e (f := 37) (kd := 1) (ln := 8400) rfl (by decide)
  rw [← e2, ← e3] at pz29
  clear e3 e2 e M2 n pz28
  refine ⟨by omega, by omega, ?_⟩
  intro n e M2 e2
  refine ⟨by rw [e2, pz29.hd (by omega) e]; exact ho, ?_⟩
  intro M3 e3
  have pz30 := pz29.rlt e (f := 48) (kd := 1) (ln := 130) rfl (by decide)
  rw [← e2, ← e3] at pz30
  clear e3 e2 e M2 n pz29
  exact hQ _ _ _ (by omega) (by omega) pz30
theorem ux_4 (d : Nat) (ho : (x_h M0 m).1 = 28) (pz30 : Pz G M0 M m 1 (fun j => if j = 0 then 2 else x_i M0 m j) (rlT.take 30)) (hrc : rc = 34) (hrs : rs = 206677) (hQ : ∀ rc rs M', rc = 26 → rs = 204727 → Pz G M0 M' m 1 (fun j => if j = 0 then 2 else x_i M0 m j) (rlT.take 38) → LX12_init_335 G d rc rs m M' Q) : LX12_init_263 G d rc rs m M Q := by
  refine vX12_init_263 _ ?_
  refine ⟨by omega, by omega, ?_⟩
  intro n e M2 e2
  refine ⟨by rw [e2, pz30.hd (by omega) e]; exact ho, ?_⟩
  intro M3 e3
  have pz31 := pz30.rlt e (f := 49) (kd := 1) (ln := 130) rfl (by decide)
  rw [← e2, ← e3] at pz31
  clear e3 e2 e M2 n pz30
  refine ⟨by omega, by omega, ?_⟩
  intro n e M2 e2
  refine ⟨by rw [e2, pz31.hd (by omega) e]; exact ho, ?_⟩
  intro M3 e3
  have pz32 := pz31.rlt e (f := 50) (kd := 1) (ln := 130) rfl (by decide)
  rw [← e2, ← e3] at pz32
  clear e3 e2 e M2 n pz31
  refine ⟨by omega, by omega, ?_⟩
  intro n e M2 e2
  refine ⟨by rw [e2, pz32.hd (by omega) e]; exact ho, ?_⟩
  intro M3 e3
  have pz33 := pz32.rlt e (f := 51) (kd := 1) (ln := 130) rfl (by decide)
  rw [← e2, ← e3] at pz33
  clear e3 e2 e M2 n pz32
  refine ⟨by omega, by omega, ?_⟩
  intro n e M2 e2
  refine ⟨by rw [e2, pz33.hd (by omega) e]; exact ho, ?_⟩
  intro M3 e3
  have pz34 := pz33.rlt e (f := 52) (kd := 1) (ln := 130) rfl (by decide)
  rw [← e2, ← e3] at pz34
  clear e3 e2 e M2 n pz33
  refine ⟨by omega, by omega, ?_⟩
  intro n e M2 e2
  refine ⟨by rw [e2, pz34.hd (by omega) e]; exact ho, ?_⟩
  intro M3 e3
  have pz35 := pz34.rlt e (f := 53) (kd := 1) (ln := 130) rfl (by decide)
  rw [← e2, ← e3] at pz35
  clear e3 e2 e M2 n pz34
  refine ⟨by omega, by omega, ?_⟩
  intro n e M2 e2
  refine ⟨by rw [e2, pz35.hd (by omega) e]; exact ho, ?_⟩
  intro M3 e3
  have pz36 := pz35.rlt e (f := 54) (kd := 1) (ln := 1040) rfl (by decide)
  rw [← e2, ← e3] at pz36
  clear e3 e2 e M2 n pz35
  refine ⟨by omega, by omega, ?_⟩
  intro n e M2 e2
  refine ⟨by rw [e2, pz36.hd (by omega) e]; exact ho, ?_⟩
  intro M3 e3
  have pz37 := pz36.rlt e (f := 55) (kd := 1) (ln := 130) rfl (by decide)
  rw [← e2, ← e3] at pz37
  clear e3 e2 e M2 n pz36
  refine ⟨by omega, by omega, ?_⟩
  intro n e M2 e2
  refine ⟨by rw [e2, pz37.hd (by omega) e]; exact ho, ?_⟩
  intro M3 e3
  have pz38 := pz37.rlt e (f := 56) (kd := 1) (ln := 130) rfl (by decide)
  rw [← e2, ← e3] at pz38
  clear e3 e2 e M2 n pz37
  exact hQ _ _ _ (by omega) (by omega) pz38
theorem ux_5 (d : Nat) (ho : (x_h M0 m).1 = 28) (pz38 : Pz G M0 M m 1 (fun j => if j = 0 then 2 else x_i M0 m j) (rlT.take 38)) (hrc : rc = 26) (hrs : rs = 204727) (hQ : ∀ rc rs M', rc = 18 → rs = 203687 → Pz G M0 M' m 1 (fun j => if j = 0 then 2 else x_i M0 m j) (rlT.take 46) → LX12_init_407 G d rc rs m M' Q) : LX12_init_335 G d rc rs m M Q := by
  refine vX12_init_335 _ ?_
  refine ⟨by omega, by omega, ?_⟩
  intro n e M2 e2
  refine ⟨by rw [e2, pz38.hd (by omega) e]; exact ho, ?_⟩
  intro M3 e3
  have pz39 := pz38.rlt e (f := 57) (kd := 1) (ln := 130) rfl (by decide)
  rw [← e2, ← e3] at pz39
  clear e3 e2 e M2 n pz38
  refine ⟨by omega, by omega, ?_⟩
  intro n e M2 e2
  refine ⟨by rw [e2, pz39.hd (by omega) e]; exact ho, ?_⟩
  intro M3 e3
  have pz40 := pz39.rlt e (f := 58) (kd := 1) (ln := 130) rfl (by decide)
  rw [← e2, ← e3] at pz40
  clear e3 e2 e M2 n pz39
  refine ⟨by omega, by omega, ?_⟩
  intro n e M2 e2
  refine ⟨by rw [e2, pz40.hd (by omega) e]; exact ho, ?_⟩
  intro M3 e3
  have pz41 := pz40.rlt e (f := 59) (kd := 1) (ln := 130) rfl (by decide)
  rw [← e2, ← e3] at pz41
  clear e3 e2 e M2 n pz40
  refine ⟨by omega, by omega, ?_⟩
  intro n e M2 e2
  refine ⟨by rw [e2, pz41.hd (by omega) e]; exact ho, ?_⟩
  intro M3 e3
  have pz42 := pz41.rlt e (f := 60) (kd := 1) (ln := 130) rfl (by decide)
  rw [← e2, ← e3] at pz42
  clear e3 e2 e M2 n pz41
  refine ⟨by omega, by omega, ?_⟩
  intro n e M2 e2
  refine ⟨by rw [e2, pz42.hd (by omega) e]; exact ho, ?_⟩
  intro M3 e3
  have pz43 := pz42.rlt e (f := 61) (kd := 1) (ln := 130) rfl (by decide)
  rw [← e2, ← e3] at pz43
  clear e3 e2 e M2 n pz42
  refine ⟨by omega, by omega, ?_⟩
  intro n e M2 e2
  refine ⟨by rw [e2, pz43.hd (by omega) e]; exact ho, ?_⟩
  intro M3 e3
  have pz44 := pz43.rlt e (f := 62) (kd := 1) (ln := 130) rfl (by decide)
  rw [← e2, ← e3] at pz44
  clear e3 e2 e M2 n pz43
  refine ⟨by omega, by omega, ?_⟩
  intro n e M2 e2
  refine ⟨by rw [e2, pz44.hd (by omega) e]; exact ho, ?_⟩
  intro M3 e3
  have pz45 := pz44.rlt e (f := 63) (kd := 1) (ln := 130) rfl (by decide)
  rw [← e2, ← e3] at pz45
  clear e3 e2 e M2 n pz44
  refine ⟨by omega, by omega, ?_⟩
  intro n e M2 e2
  refine ⟨by rw [e2, pz45.hd (by omega) e]; exact ho, ?_⟩
  intro M3 e3
  have pz46 := pz45.rlt e (f := 64) (kd := 1) (ln := 130) rfl (by decide)
  rw [← e2, ← e3] at pz46
  clear e3 e2 e M2 n pz45
  exact hQ _ _ _ (by omega) (by omega) pz46
theorem ux_6 (d : Nat) (ho : (x_h M0 m).1 = 28) (pz46 : Pz G M0 M m 1 (fun j => if j = 0 then 2 else x_i M0 m j) (rlT.take 46)) (hrc : rc = 18) (hrs : rs = 203687) (hQ : ∀ rc rs M', rc = 10 → rs = 47007 → Pz G M0 M' m 1 (fun j => if j = 0 then 2 else x_i M0 m j) (rlT.take 54) → LX12_init_476 G d rc rs m M' Q) : LX12_init_407 G d rc rs m M Q := by
  refine vX12_init_407 _ ?_
  refine ⟨by omega, by omega, ?_⟩
  intro n e M2 e2
  refine ⟨by rw [e2, pz46.hd (by omega) e]; exact ho, ?_⟩
  intro M3 e3
  have pz47 := pz46.rlt e (f := 65) (kd := 1) (ln := 8) rfl (by decide)
  rw [← e2, ← e3] at pz47
  clear e3 e2 e M2 n pz46
  refine ⟨by omega, by omega, ?_⟩
  intro n e M2 e2
  refine ⟨by rw [e2, pz47.hd (by omega) e]; exact ho, ?_⟩
  intro M3 e3
  have pz48 := pz47.rlt e (f := 73) (kd := 1) (ln := 130) rfl (by decide)
  rw [← e2, ← e3] at pz48
  clear e3 e2 e M2 n pz47
  refine ⟨by omega, by omega, ?_⟩
  intro n e M2 e2
  refine ⟨by rw [e2, pz48.hd (by omega) e]; exact ho, ?_⟩
  intro M3 e3
  have pz49 := pz48.rlt e (f := 74) (kd := 1) (ln := 140400) rfl (by decide)
  rw [← e2, ← e3] at pz49
  clear e3 e2 e M2 n pz48
  refine ⟨by omega, by omega, ?_⟩
  intro n e M2 e2
  refine ⟨by rw [e2, pz49.hd (by omega) e]; exact ho, ?_⟩
  intro M3 e3
  have pz50 := pz49.rlt e (f := 75) (kd := 3) (ln := 5200) rfl (by decide)
  rw [← e2, ← e3] at pz50
  clear e3 e2 e M2 n pz49
  refine ⟨by omega, by omega, ?_⟩
  intro n e M2 e2
  refine ⟨by rw [e2, pz50.hd (by omega) e]; exact ho, ?_⟩
  intro M3 e3
  have pz51 := pz50.rlt e (f := 76) (kd := 2) (ln := 302) rfl (by decide)
  rw [← e2, ← e3] at pz51
  clear e3 e2 e M2 n pz50
  refine ⟨by omega, by omega, ?_⟩
  intro n e M2 e2
  refine ⟨by rw [e2, pz51.hd (by omega) e]; exact ho, ?_⟩
  intro M3 e3
  have pz52 := pz51.rlt e (f := 77) (kd := 1) (ln := 8400) rfl (by decide)
  rw [← e2, ← e3] at pz52
  clear e3 e2 e M2 n pz51
  refine ⟨by omega, by omega, ?_⟩
  intro n e M2 e2
  refine ⟨by rw [e2, pz52.hd (by omega) e]; exact ho, ?_⟩
  intro M3 e3
  have pz53 := pz52.rlt e (f := 80) (kd := 1) (ln := 2160) rfl (by decide)
  rw [← e2, ← e3] at pz53
  clear e3 e2 e M2 n pz52
  refine ⟨by omega, by omega, ?_⟩
  intro n e M2 e2
  refine ⟨by rw [e2, pz53.hd (by omega) e]; exact ho, ?_⟩
  intro M3 e3
  have pz54 := pz53.rlt e (f := 81) (kd := 1) (ln := 80) rfl (by decide)
  rw [← e2, ← e3] at pz54
  clear e3 e2 e M2 n pz53
  exact hQ _ _ _ (by omega) (by omega) pz54
theorem ux_7 (d : Nat) (ho : (x_h M0 m).1 = 28) (pz54 : Pz G M0 M m 1 (fun j => if j = 0 then 2 else x_i M0 m j) (rlT.take 54)) (hrc : rc = 10) (hrs : rs = 47007) (hQ : ∀ rc rs M', rc = 2 → rs = 80 → Pz G M0 M' m 1 (fun j => if j = 0 then 2 else x_i M0 m j) (rlT.take 62) → LX12_init_541 G d rc rs m M' Q) : LX12_init_476 G d rc rs m M Q := by
  refine vX12_init_476 _ ?_
  refine ⟨by omega, by omega, ?_⟩
  intro n e M2 e2
  refine ⟨by rw [e2, pz54.hd (by omega) e]; exact ho, ?_⟩
  intro M3 e3
  have pz55 := pz54.rlt e (f := 82) (kd := 1) (ln := 2) rfl (by decide)
  rw [← e2, ← e3] at pz55
  clear e3 e2 e M2 n pz54
  refine ⟨by omega, by omega, ?_⟩
  intro n e M2 e2
  refine ⟨by rw [e2, pz55.hd (by omega) e]; exact ho, ?_⟩
  intro M3 e3
  have pz56 := pz55.rlt e (f := 83) (kd := 1) (ln := 33600) rfl (by decide)
  rw [← e2, ← e3] at pz56
  clear e3 e2 e M2 n pz55
  refine ⟨by omega, by omega, ?_⟩
  intro n e M2 e2
  refine ⟨by rw [e2, pz56.hd (by omega) e]; exact ho, ?_⟩
  intro M3 e3
  have pz57 := pz56.rlt e (f := 84) (kd := 1) (ln := 4) rfl (by decide)
  rw [← e2, ← e3] at pz57
  clear e3 e2 e M2 n pz56
  refine ⟨by omega, by omega, ?_⟩
  intro n e M2 e2
  refine ⟨by rw [e2, pz57.hd (by omega) e]; exact ho, ?_⟩
  intro M3 e3
  have pz58 := pz57.rlt e (f := 85) (kd := 1) (ln := 330) rfl (by decide)
  rw [← e2, ← e3] at pz58
  clear e3 e2 e M2 n pz57
  refine ⟨by omega, by omega, ?_⟩
  intro n e M2 e2
  refine ⟨by rw [e2, pz58.hd (by omega) e]; exact ho, ?_⟩
  intro M3 e3
  have pz59 := pz58.rlt e (f := 86) (kd := 2) (ln := 8400) rfl (by decide)
  rw [← e2, ← e3] at pz59
  clear e3 e2 e M2 n pz58
  refine ⟨by omega, by omega, ?_⟩
  intro n e M2 e2
  refine ⟨by rw [e2, pz59.hd (by omega) e]; exact ho, ?_⟩
  intro M3 e3
  have pz60 := pz59.rlt e (f := 87) (kd := 3) (ln := 4440) rfl (by decide)
  rw [← e2, ← e3] at pz60
  clear e3 e2 e M2 n pz59
  refine ⟨by omega, by omega, ?_⟩
  intro n e M2 e2
  refine ⟨by rw [e2, pz60.hd (by omega) e]; exact ho, ?_⟩
  intro M3 e3
  have pz61 := pz60.rlt e (f := 88) (kd := 1) (ln := 111) rfl (by decide)
  rw [← e2, ← e3] at pz61
  clear e3 e2 e M2 n pz60
  refine ⟨by omega, by omega, ?_⟩
  intro n e M2 e2
  refine ⟨by rw [e2, pz61.hd (by omega) e]; exact ho, ?_⟩
  intro M3 e3
  have pz62 := pz61.rlt e (f := 89) (kd := 2) (ln := 40) rfl (by decide)
  rw [← e2, ← e3] at pz62
  clear e3 e2 e M2 n pz61
  exact hQ _ _ _ (by omega) (by omega) pz62
theorem ux_8 (d : Nat) (ho : (x_h M0 m).1 = 28) (pz62 : Pz G M0 M m 1 (fun j => if j = 0 then 2 else x_i M0 m j) (rlT.take 62)) (hrc : rc = 2) (hrs : rs = 80) (hQ : ∀ rc rs M', rc = 0 → rs = 0 → Pz G M0 M' m 1 (fun j => if j = 0 then 2 else x_i M0 m j) (rlT.take 64) → LX12_init_559 G d rc rs m 0 M' Q) : LX12_init_541 G d rc rs m M Q := by
  refine vX12_init_541 _ ?_
  refine ⟨by omega, by omega, ?_⟩
  intro n e M2 e2
  refine ⟨by rw [e2, pz62.hd (by omega) e]; exact ho, ?_⟩
  intro M3 e3
  have pz63 := pz62.rlt e (f := 90) (kd := 2) (ln := 40) rfl (by decide)
  rw [← e2, ← e3] at pz63
  clear e3 e2 e M2 n pz62
  refine ⟨by omega, by omega, ?_⟩
  intro n e M2 e2
  refine ⟨by rw [e2, pz63.hd (by omega) e]; exact ho, ?_⟩
  intro M3 e3
  have pz64 := pz63.rlt e (f := 91) (kd := 3) (ln := 40) rfl (by decide)
  rw [← e2, ← e3] at pz64
  clear e3 e2 e M2 n pz63
  exact hQ _ _ _ (by omega) (by omega) pz64
end RefNew
