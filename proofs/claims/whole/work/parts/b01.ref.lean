/-! ===== the reference: its cells ===== -/
section RefC
/-- the array fields: place behind the object, kind, length -/
def rfT : Nat → Option (Nat × Nat × Nat) := fun k => match k with
  | 2 => some (1, 1, 10)
  | 3 => some (2, 1, 10)
  | 4 => some (3, 1, 1800)
  | 5 => some (4, 1, 600)
  | 6 => some (5, 1, 10)
  | 8 => some (6, 1, 10)
  | 9 => some (7, 1, 10)
  | 10 => some (8, 1, 10)
  | 11 => some (9, 1, 10)
  | 12 => some (10, 1, 10)
  | 13 => some (11, 1, 10)
  | 14 => some (12, 1, 10)
  | 15 => some (13, 1, 10800)
  | 16 => some (14, 3, 400)
  | 17 => some (15, 1, 120)
  | 19 => some (16, 1, 6)
  | 20 => some (17, 1, 6)
  | 21 => some (18, 1, 240)
  | 23 => some (19, 1, 50)
  | 27 => some (20, 1, 226800)
  | 28 => some (21, 1, 8400)
  | 30 => some (22, 1, 8400)
  | 31 => some (23, 1, 8400)
  | 32 => some (24, 1, 32768)
  | 33 => some (25, 1, 8400)
  | 34 => some (26, 1, 8400)
  | 35 => some (27, 1, 3600)
  | 36 => some (28, 1, 8400)
  | 37 => some (29, 1, 8400)
  | 48 => some (30, 1, 130)
  | 49 => some (31, 1, 130)
  | 50 => some (32, 1, 130)
  | 51 => some (33, 1, 130)
  | 52 => some (34, 1, 130)
  | 53 => some (35, 1, 130)
  | 54 => some (36, 1, 1040)
  | 55 => some (37, 1, 130)
  | 56 => some (38, 1, 130)
  | 57 => some (39, 1, 130)
  | 58 => some (40, 1, 130)
  | 59 => some (41, 1, 130)
  | 60 => some (42, 1, 130)
  | 61 => some (43, 1, 130)
  | 62 => some (44, 1, 130)
  | 63 => some (45, 1, 130)
  | 64 => some (46, 1, 130)
  | 65 => some (47, 1, 8)
  | 73 => some (48, 1, 130)
  | 74 => some (49, 1, 140400)
  | 75 => some (50, 3, 5200)
  | 76 => some (51, 2, 302)
  | 77 => some (52, 1, 8400)
  | 80 => some (53, 1, 2160)
  | 81 => some (54, 1, 80)
  | 82 => some (55, 1, 2)
  | 83 => some (56, 1, 33600)
  | 84 => some (57, 1, 4)
  | 85 => some (58, 1, 330)
  | 86 => some (59, 2, 8400)
  | 87 => some (60, 3, 4440)
  | 88 => some (61, 1, 111)
  | 89 => some (62, 2, 40)
  | 90 => some (63, 2, 40)
  | 91 => some (64, 3, 40)
  | _ => none
/-- the object m of the reference -/
def ReS (M : Mem) (m : Nat) : Prop := (x_h M m).1 = 28 ∧ ∀ k o kd n, rfT k = some (o, kd, n) → x_r M m k = some (m + o) ∧ x_h M (m + o) = (kd, n)
theorem ReS.eq {M M' : Mem} {m : Nat} (h : ReS M m) (h1 : x_h M' = x_h M) (h2 : x_r M' = x_r M) : ReS M' m := by
  unfold ReS
  rw [h1, h2]
  exact h
variable {M : Mem} {m : Nat}
theorem ReS.r1 (h : ReS M m) : x_r M m 2 = some (m + 1) := (h.2 2 1 1 10 rfl).1
theorem ReS.h1 (h : ReS M m) : x_h M (m + 1) = (1, 10) := (h.2 2 1 1 10 rfl).2
theorem ReS.r2 (h : ReS M m) : x_r M m 3 = some (m + 2) := (h.2 3 2 1 10 rfl).1
theorem ReS.h2 (h : ReS M m) : x_h M (m + 2) = (1, 10) := (h.2 3 2 1 10 rfl).2
theorem ReS.r3 (h : ReS M m) : x_r M m 4 = some (m + 3) := (h.2 4 3 1 1800 rfl).1
theorem ReS.h3 (h : ReS M m) : x_h M (m + 3) = (1, 1800) := (h.2 4 3 1 1800 rfl).2
theorem ReS.r4 (h : ReS M m) : x_r M m 5 = some (m + 4) := (h.2 5 4 1 600 rfl).1
theorem ReS.h4 (h : ReS M m) : x_h M (m + 4) = (1, 600) := (h.2 5 4 1 600 rfl).2
theorem ReS.r5 (h : ReS M m) : x_r M m 6 = some (m + 5) := (h.2 6 5 1 10 rfl).1
theorem ReS.h5 (h : ReS M m) : x_h M (m + 5) = (1, 10) := (h.2 6 5 1 10 rfl).2
theorem ReS.r6 (h : ReS M m) : x_r M m 8 = some (m + 6) := (h.2 8 6 1 10 rfl).1
theorem ReS.h6 (h : ReS M m) : x_h M (m + 6) = (1, 10) := (h.2 8 6 1 10 rfl).2
theorem ReS.r7 (h : ReS M m) : x_r M m 9 = some (m + 7) := (h.2 9 7 1 10 rfl).1
theorem ReS.h7 (h : ReS M m) : x_h M (m + 7) = (1, 10) := (h.2 9 7 1 10 rfl).2
theorem ReS.r8 (h : ReS M m) : x_r M m 10 = some (m + 8) := (h.2 10 8 1 10 rfl).1
theorem ReS.h8 (h : ReS M m) : x_h M (m + 8) = (1, 10) := (h.2 10 8 1 10 rfl).2
theorem ReS.r9 (h : ReS M m) : x_r M m 11 = some (m + 9) := (h.2 11 9 1 10 rfl).1
theorem ReS.h9 (h : ReS M m) : x_h M (m + 9) = (1, 10) := (h.2 11 9 1 10 rfl).2
theorem ReS.r10 (h : ReS M m) : x_r M m 12 = some (m + 10) := (h.2 12 10 1 10 rfl).1
theorem ReS.h10 (h : ReS M m) : x_h M (m + 10) = (1, 10) := (h.2 12 10 1 10 rfl).2
theorem ReS.r11 (h : ReS M m) : x_r M m 13 = some (m + 11) := (h.2 13 11 1 10 rfl).1
theorem ReS.h11 (h : ReS M m) : x_h M (m + 11) = (1, 10) := (h.2 13 11 1 10 rfl).2
theorem ReS.r12 (h : ReS M m) : x_r M m 14 = some (m + 12) := (h.2 14 12 1 10 rfl).1
theorem ReS.h12 (h : ReS M m) : x_h M (m + 12) = (1, 10) := (h.2 14 12 1 10 rfl).2
theorem ReS.r13 (h : ReS M m) : x_r M m 15 = some (m + 13) := (h.2 15 13 1 10800 rfl).1
theorem ReS.h13 (h : ReS M m) : x_h M (m + 13) = (1, 10800) := (h.2 15 13 1 10800 rfl).2
theorem ReS.r14 (h : ReS M m) : x_r M m 16 = some (m + 14) := (h.2 16 14 3 400 rfl).1
theorem ReS.h14 (h : ReS M m) : x_h M (m + 14) = (3, 400) := (h.2 16 14 3 400 rfl).2
theorem ReS.r15 (h : ReS M m) : x_r M m 17 = some (m + 15) := (h.2 17 15 1 120 rfl).1
theorem ReS.h15 (h : ReS M m) : x_h M (m + 15) = (1, 120) := (h.2 17 15 1 120 rfl).2
theorem ReS.r16 (h : ReS M m) : x_r M m 19 = some (m + 16) := (h.2 19 16 1 6 rfl).1
theorem ReS.h16 (h : ReS M m) : x_h M (m + 16) = (1, 6) := (h.2 19 16 1 6 rfl).2
theorem ReS.r17 (h : ReS M m) : x_r M m 20 = some (m + 17) := (h.2 20 17 1 6 rfl).1
theorem ReS.h17 (h : ReS M m) : x_h M (m + 17) = (1, 6) := (h.2 20 17 1 6 rfl).2
theorem ReS.r18 (h : ReS M m) : x_r M m 21 = some (m + 18) := (h.2 21 18 1 240 rfl).1
theorem ReS.h18 (h : ReS M m) : x_h M (m + 18) = (1, 240) := (h.2 21 18 1 240 rfl).2
theorem ReS.r19 (h : ReS M m) : x_r M m 23 = some (m + 19) := (h.2 23 19 1 50 rfl).1
theorem ReS.h19 (h : ReS M m) : x_h M (m + 19) = (1, 50) := (h.2 23 19 1 50 rfl).2
theorem ReS.r20 (h : ReS M m) : x_r M m 27 = some (m + 20) := (h.2 27 20 1 226800 rfl).1
theorem ReS.h20 (h : ReS M m) : x_h M (m + 20) = (1, 226800) := (h.2 27 20 1 226800 rfl).2
theorem ReS.r21 (h : ReS M m) : x_r M m 28 = some (m + 21) := (h.2 28 21 1 8400 rfl).1
theorem ReS.h21 (h : ReS M m) : x_h M (m + 21) = (1, 8400) := (h.2 28 21 1 8400 rfl).2
theorem ReS.r22 (h : ReS M m) : x_r M m 30 = some (m + 22) := (h.2 30 22 1 8400 rfl).1
theorem ReS.h22 (h : ReS M m) : x_h M (m + 22) = (1, 8400) := (h.2 30 22 1 8400 rfl).2
theorem ReS.r23 (h : ReS M m) : x_r M m 31 = some (m + 23) := (h.2 31 23 1 8400 rfl).1
theorem ReS.h23 (h : ReS M m) : x_h M (m + 23) = (1, 8400) := (h.2 31 23 1 8400 rfl).2
theorem ReS.r24 (h : ReS M m) : x_r M m 32 = some (m + 24) := (h.2 32 24 1 32768 rfl).1
theorem ReS.h24 (h : ReS M m) : x_h M (m + 24) = (1, 32768) := (h.2 32 24 1 32768 rfl).2
theorem ReS.r25 (h : ReS M m) : x_r M m 33 = some (m + 25) := (h.2 33 25 1 8400 rfl).1
theorem ReS.h25 (h : ReS M m) : x_h M (m + 25) = (1, 8400) := (h.2 33 25 1 8400 rfl).2
theorem ReS.r26 (h : ReS M m) : x_r M m 34 = some (m + 26) := (h.2 34 26 1 8400 rfl).1
theorem ReS.h26 (h : ReS M m) : x_h M (m + 26) = (1, 8400) := (h.2 34 26 1 8400 rfl).2
theorem ReS.r27 (h : ReS M m) : x_r M m 35 = some (m + 27) := (h.2 35 27 1 3600 rfl).1
theorem ReS.h27 (h : ReS M m) : x_h M (m + 27) = (1, 3600) := (h.2 35 27 1 3600 rfl).2
theorem ReS.r28 (h : ReS M m) : x_r M m 36 = some (m + 28) := (h.2 36 28 1 8400 rfl).1
theorem ReS.h28 (h : ReS M m) : x_h M (m + 28) = (1, 8400) := (h.2 36 28 1 8400 rfl).2
theorem ReS.r29 (h : ReS M m) : x_r M m 37 = some (m + 29) := (h.2 37 29 1 8400 rfl).1
theorem ReS.h29 (h : ReS M m) : x_h M (m + 29) = (1, 8400) := (h.2 37 29 1 8400 rfl).2
theorem ReS.r30 (h : ReS M m) : x_r M m 48 = some (m + 30) := (h.2 48 30 1 130 rfl).1
theorem ReS.h30 (h : ReS M m) : x_h M (m + 30) = (1, 130) := (h.2 48 30 1 130 rfl).2
theorem ReS.r31 (h : ReS M m) : x_r M m 49 = some (m + 31) := (h.2 49 31 1 130 rfl).1
theorem ReS.h31 (h : ReS M m) : x_h M (m + 31) = (1, 130) := (h.2 49 31 1 130 rfl).2
theorem ReS.r32 (h : ReS M m) : x_r M m 50 = some (m + 32) := (h.2 50 32 1 130 rfl).1
theorem ReS.h32 (h : ReS M m) : x_h M (m + 32) = (1, 130) := (h.2 50 32 1 130 rfl).2
theorem ReS.r33 (h : ReS M m) : x_r M m 51 = some (m + 33) := (h.2 51 33 1 130 rfl).1
theorem ReS.h33 (h : ReS M m) : x_h M (m + 33) = (1, 130) := (h.2 51 33 1 130 rfl).2
theorem ReS.r34 (h : ReS M m) : x_r M m 52 = some (m + 34) := (h.2 52 34 1 130 rfl).1
theorem ReS.h34 (h : ReS M m) : x_h M (m + 34) = (1, 130) := (h.2 52 34 1 130 rfl).2
theorem ReS.r35 (h : ReS M m) : x_r M m 53 = some (m + 35) := (h.2 53 35 1 130 rfl).1
theorem ReS.h35 (h : ReS M m) : x_h M (m + 35) = (1, 130) := (h.2 53 35 1 130 rfl).2
theorem ReS.r36 (h : ReS M m) : x_r M m 54 = some (m + 36) := (h.2 54 36 1 1040 rfl).1
theorem ReS.h36 (h : ReS M m) : x_h M (m + 36) = (1, 1040) := (h.2 54 36 1 1040 rfl).2
theorem ReS.r37 (h : ReS M m) : x_r M m 55 = some (m + 37) := (h.2 55 37 1 130 rfl).1
theorem ReS.h37 (h : ReS M m) : x_h M (m + 37) = (1, 130) := (h.2 55 37 1 130 rfl).2
theorem ReS.r38 (h : ReS M m) : x_r M m 56 = some (m + 38) := (h.2 56 38 1 130 rfl).1
theorem ReS.h38 (h : ReS M m) : x_h M (m + 38) = (1, 130) := (h.2 56 38 1 130 rfl).2
theorem ReS.r39 (h : ReS M m) : x_r M m 57 = some (m + 39) := (h.2 57 39 1 130 rfl).1
theorem ReS.h39 (h : ReS M m) : x_h M (m + 39) = (1, 130) := (h.2 57 39 1 130 rfl).2
theorem ReS.r40 (h : ReS M m) : x_r M m 58 = some (m + 40) := (h.2 58 40 1 130 rfl).1
theorem ReS.h40 (h : ReS M m) : x_h M (m + 40) = (1, 130) := (h.2 58 40 1 130 rfl).2
theorem ReS.r41 (h : ReS M m) : x_r M m 59 = some (m + 41) := (h.2 59 41 1 130 rfl).1
theorem ReS.h41 (h : ReS M m) : x_h M (m + 41) = (1, 130) := (h.2 59 41 1 130 rfl).2
theorem ReS.r42 (h : ReS M m) : x_r M m 60 = some (m + 42) := (h.2 60 42 1 130 rfl).1
theorem ReS.h42 (h : ReS M m) : x_h M (m + 42) = (1, 130) := (h.2 60 42 1 130 rfl).2
theorem ReS.r43 (h : ReS M m) : x_r M m 61 = some (m + 43) := (h.2 61 43 1 130 rfl).1
theorem ReS.h43 (h : ReS M m) : x_h M (m + 43) = (1, 130) := (h.2 61 43 1 130 rfl).2
theorem ReS.r44 (h : ReS M m) : x_r M m 62 = some (m + 44) := (h.2 62 44 1 130 rfl).1
theorem ReS.h44 (h : ReS M m) : x_h M (m + 44) = (1, 130) := (h.2 62 44 1 130 rfl).2
theorem ReS.r45 (h : ReS M m) : x_r M m 63 = some (m + 45) := (h.2 63 45 1 130 rfl).1
theorem ReS.h45 (h : ReS M m) : x_h M (m + 45) = (1, 130) := (h.2 63 45 1 130 rfl).2
theorem ReS.r46 (h : ReS M m) : x_r M m 64 = some (m + 46) := (h.2 64 46 1 130 rfl).1
theorem ReS.h46 (h : ReS M m) : x_h M (m + 46) = (1, 130) := (h.2 64 46 1 130 rfl).2
theorem ReS.r47 (h : ReS M m) : x_r M m 65 = some (m + 47) := (h.2 65 47 1 8 rfl).1
theorem ReS.h47 (h : ReS M m) : x_h M (m + 47) = (1, 8) := (h.2 65 47 1 8 rfl).2
theorem ReS.r48 (h : ReS M m) : x_r M m 73 = some (m + 48) := (h.2 73 48 1 130 rfl).1
theorem ReS.h48 (h : ReS M m) : x_h M (m + 48) = (1, 130) := (h.2 73 48 1 130 rfl).2
theorem ReS.r49 (h : ReS M m) : x_r M m 74 = some (m + 49) := (h.2 74 49 1 140400 rfl).1
theorem ReS.h49 (h : ReS M m) : x_h M (m + 49) = (1, 140400) := (h.2 74 49 1 140400 rfl).2
theorem ReS.r50 (h : ReS M m) : x_r M m 75 = some (m + 50) := (h.2 75 50 3 5200 rfl).1
theorem ReS.h50 (h : ReS M m) : x_h M (m + 50) = (3, 5200) := (h.2 75 50 3 5200 rfl).2
theorem ReS.r51 (h : ReS M m) : x_r M m 76 = some (m + 51) := (h.2 76 51 2 302 rfl).1
theorem ReS.h51 (h : ReS M m) : x_h M (m + 51) = (2, 302) := (h.2 76 51 2 302 rfl).2
theorem ReS.r52 (h : ReS M m) : x_r M m 77 = some (m + 52) := (h.2 77 52 1 8400 rfl).1
theorem ReS.h52 (h : ReS M m) : x_h M (m + 52) = (1, 8400) := (h.2 77 52 1 8400 rfl).2
theorem ReS.r53 (h : ReS M m) : x_r M m 80 = some (m + 53) := (h.2 80 53 1 2160 rfl).1
theorem ReS.h53 (h : ReS M m) : x_h M (m + 53) = (1, 2160) := (h.2 80 53 1 2160 rfl).2
theorem ReS.r54 (h : ReS M m) : x_r M m 81 = some (m + 54) := (h.2 81 54 1 80 rfl).1
theorem ReS.h54 (h : ReS M m) : x_h M (m + 54) = (1, 80) := (h.2 81 54 1 80 rfl).2
theorem ReS.r55 (h : ReS M m) : x_r M m 82 = some (m + 55) := (h.2 82 55 1 2 rfl).1
theorem ReS.h55 (h : ReS M m) : x_h M (m + 55) = (1, 2) := (h.2 82 55 1 2 rfl).2
theorem ReS.r56 (h : ReS M m) : x_r M m 83 = some (m + 56) := (h.2 83 56 1 33600 rfl).1
theorem ReS.h56 (h : ReS M m) : x_h M (m + 56) = (1, 33600) := (h.2 83 56 1 33600 rfl).2
theorem ReS.r57 (h : ReS M m) : x_r M m 84 = some (m + 57) := (h.2 84 57 1 4 rfl).1
theorem ReS.h57 (h : ReS M m) : x_h M (m + 57) = (1, 4) := (h.2 84 57 1 4 rfl).2
theorem ReS.r58 (h : ReS M m) : x_r M m 85 = some (m + 58) := (h.2 85 58 1 330 rfl).1
theorem ReS.h58 (h : ReS M m) : x_h M (m + 58) = (1, 330) := (h.2 85 58 1 330 rfl).2
theorem ReS.r59 (h : ReS M m) : x_r M m 86 = some (m + 59) := (h.2 86 59 2 8400 rfl).1
theorem ReS.h59 (h : ReS M m) : x_h M (m + 59) = (2, 8400) := (h.2 86 59 2 8400 rfl).2
theorem ReS.r60 (h : ReS M m) : x_r M m 87 = some (m + 60) := (h.2 87 60 3 4440 rfl).1
theorem ReS.h60 (h : ReS M m) : x_h M (m + 60) = (3, 4440) := (h.2 87 60 3 4440 rfl).2
theorem ReS.r61 (h : ReS M m) : x_r M m 88 = some (m + 61) := (h.2 88 61 1 111 rfl).1
theorem ReS.h61 (h : ReS M m) : x_h M (m + 61) = (1, 111) := (h.2 88 61 1 111 rfl).2
theorem ReS.r62 (h : ReS M m) : x_r M m 89 = some (m + 62) := (h.2 89 62 2 40 rfl).1
theorem ReS.h62 (h : ReS M m) : x_h M (m + 62) = (2, 40) := (h.2 89 62 2 40 rfl).2
theorem ReS.r63 (h : ReS M m) : x_r M m 90 = some (m + 63) := (h.2 90 63 2 40 rfl).1
theorem ReS.h63 (h : ReS M m) : x_h M (m + 63) = (2, 40) := (h.2 90 63 2 40 rfl).2
theorem ReS.r64 (h : ReS M m) : x_r M m 91 = some (m + 64) := (h.2 91 64 3 40 rfl).1
theorem ReS.h64 (h : ReS M m) : x_h M (m + 64) = (3, 40) := (h.2 91 64 3 40 rfl).2
/-- M' is M, but that the fields F of the object m, and the cells A behind it, are others -/
def FrM (M M' : Mem) (m : Nat) (F A : List Nat) : Prop := ∃ f g, M' = x_wl M f g ∧ (∀ q, q ≠ m → (∀ o ∈ A, q ≠ m + o) → f q = x_i M q ∧ g q = x_l M q) ∧ ∀ k, k ∉ F → f m k = x_i M m k
variable {M' M'' : Mem} {F A F' A' : List Nat}
theorem FrM.rf : FrM M M m F A := ⟨x_i M, x_l M, rfl, fun _ _ _ => ⟨rfl, rfl⟩, fun _ _ => rfl⟩
theorem FrM.h (h : FrM M M' m F A) : x_h M' = x_h M := by obtain ⟨f, g, rfl, -⟩ := h; rfl
theorem FrM.r (h : FrM M M' m F A) : x_r M' = x_r M := by obtain ⟨f, g, rfl, -⟩ := h; rfl
theorem FrM.n (h : FrM M M' m F A) : x_n M' = x_n M := by obtain ⟨f, g, rfl, -⟩ := h; rfl
theorem FrM.S (h : FrM M M' m F A) (hs : ReS M m) : ReS M' m := hs.eq h.h h.r
theorem FrM.i (h : FrM M M' m F A) {o : Nat} (h0 : o ≠ 0) (ho : o ∉ A) : x_i M' (m + o) = x_i M (m + o) := by
  obtain ⟨f, g, rfl, hf, -⟩ := h
  exact (hf (m + o) (by omega) (fun o' ho' e => ho (by rw [show o = o' by omega]; exact ho'))).1
theorem FrM.l (h : FrM M M' m F A) {o : Nat} (h0 : o ≠ 0) (ho : o ∉ A) : x_l M' (m + o) = x_l M (m + o) := by
  obtain ⟨f, g, rfl, hf, -⟩ := h
  exact (hf (m + o) (by omega) (fun o' ho' e => ho (by rw [show o = o' by omega]; exact ho'))).2
theorem FrM.fm (h : FrM M M' m F A) {k : Nat} (hk : k ∉ F) : x_i M' m k = x_i M m k := by obtain ⟨f, g, rfl, -, hf⟩ := h; exact hf k hk
theorem FrM.si (h : FrM M M' m F A) {o k : Nat} {v : Int32} (h0 : o ≠ 0) (ho : o ∈ A) : FrM M (x_si M' (m + o) k v) m F A := by
  obtain ⟨f, g, rfl, hf, hg⟩ := h
  refine ⟨up2 f (m + o) k v, g, rfl, fun q hq hA => ?_, fun j hj => ?_⟩
  · rw [up2_ne (hA o ho)]
    exact hf q hq hA
  · rw [up2_ne (show m ≠ m + o by omega)]
    exact hg j hj
theorem FrM.sl (h : FrM M M' m F A) {o k : Nat} {v : Int64} (h0 : o ≠ 0) (ho : o ∈ A) : FrM M (x_sl M' (m + o) k v) m F A := by
  obtain ⟨f, g, rfl, hf, hg⟩ := h
  refine ⟨f, up2 g (m + o) k v, rfl, fun q hq hA => ?_, hg⟩
  rw [up2_ne (hA o ho)]
  exact hf q hq hA
theorem FrM.sm (h : FrM M M' m F A) {k : Nat} {v : Int32} (hk : k ∈ F) : FrM M (x_si M' m k v) m F A := by
  obtain ⟨f, g, rfl, hf, hg⟩ := h
  refine ⟨up2 f m k v, g, rfl, fun q hq hA => ?_, fun j hj => ?_⟩
  · rw [up2_ne hq]
    exact hf q hq hA
  · show (if m = m ∧ j = k then v else f m j) = _
    rw [if_neg (fun e => hj (by rw [e.2]; exact hk))]
    exact hg j hj
theorem FrM.tr (h : FrM M M' m F A) (h2 : FrM M' M'' m F' A') (hF : ∀ k ∈ F', k ∈ F) (hA : ∀ k ∈ A', k ∈ A) : FrM M M'' m F A := by
  obtain ⟨f, g, rfl, hf, hg⟩ := h
  obtain ⟨f2, g2, rfl, hf2, hg2⟩ := h2
  refine ⟨f2, g2, rfl, fun q hq hq2 => ?_, fun k hk => ?_⟩
  · have h1 := hf2 q hq (fun o ho => hq2 o (hA o ho))
    have h2 := hf q hq hq2
    exact ⟨h1.1.trans h2.1, h1.2.trans h2.2⟩
  · exact (hg2 k (fun e => hk (hF k e))).trans (hg k hk)
theorem FrM.wk (h : FrM M M' m F' A') (hF : ∀ k ∈ F', k ∈ F) (hA : ∀ k ∈ A', k ∈ A) : FrM M M' m F A := FrM.tr FrM.rf h hF hA
theorem FrM.P (h : FrM M M' m F A) (hA : ∀ o ∈ A, o ≤ 64) : FrP M M' (fun q => m ≤ q ∧ q ≤ m + 64) := by
  obtain ⟨f, g, e, hf, -⟩ := h
  exact ⟨f, g, e, fun q hq => hf q (fun c => hq (by omega)) (fun o ho c => hq (by have := hA o ho; omega))⟩
/-- an int field of the object, a place of a cell behind it -/
theorem xm_m {k j : Nat} {v : Int32} : x_i (x_si M m k v) m j = if j = k then v else x_i M m j := by
  by_cases e : j = k
  · rw [if_pos e, e, xi_eq]
  · rw [if_neg e, xi_nk e]
theorem xm_mo {o k j : Nat} {v : Int32} (ho : o ≠ 0) : x_i (x_si M (m + o) k v) m j = x_i M m j := xi_na (by omega)
theorem xm_om {o k j : Nat} {v : Int32} (ho : o ≠ 0) : x_i (x_si M m k v) (m + o) j = x_i M (m + o) j := xi_na (by omega)
theorem xm_oo {o o' k j : Nat} {v : Int32} (ho : o' ≠ o) : x_i (x_si M (m + o) k v) (m + o') j = x_i M (m + o') j := xi_na (by omega)
variable {G : GG} {Q : Option Value → Mem → Prop}
theorem u_in (d : Nat) {x y z : Nat} (hx : x < 2 ^ 31) (hy : y < 2 ^ 31) (hz : z < 2 ^ 31) (hQ : Q (some (.int (nI (if y ≤ x ∧ x ≤ z then 1 else 0)))) M) : Call G (d + 1) 0 0 mX12_in [.int (nI x), .int (nI y), .int (nI z)] M Q := by
  refine eX12_in _ _ _ ⟨fun c => ?_, fun c => ⟨fun c2 => ?_, fun c2 => ?_⟩⟩
  · rw [nI_ltI hx hy] at c
    rw [if_neg (by omega)] at hQ; exact hQ
  · rw [nI_ltI hx hy] at c
    rw [nI_ltI hz hx] at c2
    rw [if_neg (by omega)] at hQ; exact hQ
  · rw [nI_ltI hx hy] at c
    rw [nI_ltI hz hx] at c2
    rw [if_pos (by omega)] at hQ; exact hQ
/-- in, of any int -/
theorem u_inI (d : Nat) {x : Int32} {y z : Int} (hy : -2147483648 ≤ y) (hy2 : y < 2147483648) (hz : -2147483648 ≤ z) (hz2 : z < 2147483648) (hQ : Q (some (.int (nI (if y ≤ x.toInt ∧ x.toInt ≤ z then 1 else 0)))) M) : Call G (d + 1) 0 0 mX12_in [.int x, .int (iI y), .int (iI z)] M Q := by
  refine eX12_in _ _ _ ⟨fun c => ?_, fun c => ⟨fun c2 => ?_, fun c2 => ?_⟩⟩
  · rw [Int32.lt_iff_toInt_lt, iI_toInt hy hy2] at c
    rw [if_neg (by omega)] at hQ; exact hQ
  · rw [Int32.lt_iff_toInt_lt, iI_toInt hy hy2] at c
    rw [Int32.lt_iff_toInt_lt, iI_toInt hz hz2] at c2
    rw [if_neg (by omega)] at hQ; exact hQ
  · rw [Int32.lt_iff_toInt_lt, iI_toInt hy hy2] at c
    rw [Int32.lt_iff_toInt_lt, iI_toInt hz hz2] at c2
    rw [if_pos (by omega)] at hQ; exact hQ
theorem u_done (d : Nat) (hs : ReS M m) {v : Int32} (hQ : Q (some (.int v)) (x_si M m 22 0)) : Call G (d + 1) 0 0 mX12_done [.ref m, .int v] M Q :=
  eX12_done m v ⟨hs.1, fun M2 h => by rw [h]; exact hQ⟩
theorem u_refused (d : Nat) (hs : ReS M m) {v : Int32} (hQ : Q (some (.int (-1))) (x_si M m 22 v)) : Call G (d + 1) 0 0 mX12_refused [.ref m, .int v] M Q :=
  eX12_refused m v ⟨hs.1, fun M2 h => by rw [h]; exact hQ⟩
theorem bt_high {x n : Nat} (hx : x < 256) (hn : 8 ≤ n) : bt x n = 0 := by
  have : x < 2 ^ n := Nat.lt_of_lt_of_le hx (Nat.pow_le_pow_right (n := 2) (by omega) hn)
  unfold bt
  rw [Nat.div_eq_of_lt this]
theorem u_bits (d : Nat) {x : Nat} (hx : x < 256) (hQ : Q (some (.int (nI (pc x)))) M) : Call G (d + 1) 0 0 mX12_bits [.int (nI x)] M Q := by
  refine eX12_bits _ ?_
  have key : ∀ r i, i + r = 10 → LX12_bits_4 G d 0 0 (nI x) (nI (cb x i)) (nI i) M Q := by
    intro r
    induction r with
    | zero =>
      intro i hi
      have e : i = 10 := by omega
      subst e
      refine vX12_bits_4 _ _ _ ⟨fun _ => ?_, fun c => absurd (nI_le (Nat.le_refl 10) (by omega)) c⟩
      have : cb x 10 = pc x := by
        have h8 := bt_high hx (n := 8) (by omega)
        have h9 := bt_high hx (n := 9) (by omega)
        show 0 + bt x 0 + bt x 1 + bt x 2 + bt x 3 + bt x 4 + bt x 5 + bt x 6 + bt x 7 + bt x 8 + bt x 9 = 0 + bt x 7 + bt x 6 + bt x 5 + bt x 4 + bt x 3 + bt x 2 + bt x 1 + bt x 0
        omega
      rw [this]; exact hQ
    | succ r ih =>
      intro i hi
      refine vX12_bits_4 _ _ _ ⟨fun c => absurd c (nI_ge (a := i) (b := 10) (by omega) (by omega)), fun _ => ?_⟩
      rw [sb (by omega) (by omega), nI_add, nI_1]
      exact ih (i + 1) (by omega)
  exact key 10 0 (by omega)
theorem u_across (d : Nat) (hs : ReS M m) {b x : Nat} (hb : x_i M m 0 = nI b) (hx : x < 256) (hQ : Q (some (.int (nI (fn b x)))) M) : Call G (d + 2) 0 0 mX12_across [.ref m, .int (nI x)] M Q := by
  refine eX12_across m _ ?_
  have hp := pc_le x
  have key : ∀ r i, i + r = pc x → LX12_across_4 G (d + 1) 0 0 m (nI x) (nI (b ^ i)) (nI i) M Q := by
    intro r
    induction r with
    | zero =>
      intro i hi
      have e : i = pc x := by omega
      subst e
      exact vX12_across_4 _ _ _ _ (u_bits d hx ⟨_, rfl, fun _ => hQ, fun c => absurd (nI_le (Nat.le_refl _) (by omega)) c⟩)
    | succ r ih =>
      intro i hi
      refine vX12_across_4 _ _ _ _ (u_bits d hx ⟨_, rfl, fun c => absurd c (nI_ge (by omega) (by omega)), fun _ => ⟨hs.1, ?_⟩⟩)
      rw [hb, pk_mul, ← Nat.pow_succ, nI_1]
      exact ih (i + 1) (by omega)
  exact key (pc x) 0 (by omega)
end RefC
