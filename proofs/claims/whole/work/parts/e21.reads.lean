/-! ===== the class reads numbers; those it has no names for are any ===== -/
section ReadsAny
variable {G : GG} {M : Mem} {o mv mk nm nk n b : Nat} {st : Nat → Nat → Nat} {mr : Nat → Nat} {Q : Option Value → Mem → Prop}
theorem w_readsAny (d : Nat) (hb : b = 2 ∨ b = 3) {mn x y z : Nat} {X Y Z : Int64} (hX : 0 < mn → X = lN x) (hY : 1 < mn → Y = lN y) (hZ : 2 < mn → Z = lN z) (hm : mn ≤ 3) (hs : LeS M o mv mk nm nk) (h : LeI M o mv mk n (b ^ mn) st mr) (hn : n * b ^ mn ≤ nm) (hn0 : 0 < n) (hc : ∀ i, i < n → ∀ g, g < b ^ mn → st i g < n) (hx : x < 2 ^ 63) (hy : y < 2 ^ 63) (hz : z < 2 ^ 63) (hQ : Q (some (.int (nI (rn st 0 (rw_ b mn x y z (if b = 2 then 63 else 40)))))) M) : Call G (d + 2) 0 0 mX1_readsAll [.ref o, .int (nI mn), .long X, .long Y, .long Z, .int (nI b)] M Q := by
  have hb1 : 1 < b := by omega
  have ebl : (nI b).toInt64 = lN b := nI_l (by omega)
  have hnb : n < 2 ^ 31 := by
    have h1 : n ≤ n * b ^ mn := Nat.le_mul_of_pos_right n (Nat.pow_pos (by omega))
    have := hs.2.2.2.2.2.2.2.2.1
    omega
  have hbl0 : ¬ (nI b).toInt64 = 0 := by
    rw [ebl, ← lN_0]
    intro e
    have := (pk_lEQ (a := b) (b := 0) (by omega) (by omega)).mp e
    omega
  generalize hE : (if b = 2 then 63 else 40) = E at hQ
  have hpw : ∀ e, e < E → b ^ e < 2 ^ 63 := by
    intro e he
    rcases hb with rfl | rfl
    · simp at hE
      exact Nat.pow_lt_pow_right (by omega) (by omega)
    · simp at hE
      have : 3 ^ e ≤ 3 ^ 39 := Nat.pow_le_pow_right (by omega) (by omega)
      omega
  have hE63 : E ≤ 63 := by rw [← hE]; split <;> omega
  have key : ∀ r j, j + r = E → ∀ q, q < n → rn st q (rw_ b mn x y z r) = rn st 0 (rw_ b mn x y z E) → ∀ zz, c1 zz = true → LX1_readsAll_23 G (d + 1) 0 0 o (nI mn) X Y Z (nI b) (nI q) (lN (b ^ r / b)) (nI j) zz M Q := by
    intro r
    induction r with
    | zero =>
      intro j hj q hq hw zz hzz
      have e0 : b ^ 0 / b = 0 := Nat.div_eq_of_lt (by simpa using hb1)
      have hq' : Q (some (.int (nI q))) M := by
        have : rn st q (rw_ b mn x y z 0) = q := rfl
        rw [← this, hw]; exact hQ
      rw [e0]
      refine vX1_readsAll_23 _ _ _ _ _ _ _ _ _ _ hzz ⟨fun _ => hq', fun _ => ⟨fun _ => hq', fun c => absurd ((lg_cmp_le _ _).mpr (by decide)) c⟩⟩
    | succ r ih =>
      intro j hj q hq hw zz hzz
      have e0 : b ^ (r + 1) / b = b ^ r := by rw [Nat.pow_succ]; exact Nat.mul_div_cancel _ (by omega)
      rw [e0]
      have hp0 : 0 < b ^ r := Nat.pow_pos (by omega)
      have hp63 : b ^ r < 2 ^ 63 := hpw r (by omega)
      have hl0 : ¬ lN (b ^ r) = 0 := by
        rw [← lN_0]
        intro e
        have := (pk_lEQ (a := b ^ r) (b := 0) (by omega) (by omega)).mp e
        omega
      have dg : ∀ v, v < 2 ^ 63 → (lN v / lN (b ^ r) - lN v / lN (b ^ r) / (nI b).toInt64 * (nI b).toInt64).toInt32 = nI (v / b ^ r % b) := fun v hv => by
        rw [ebl, pk_lDiv hv hp0 hp63, pk_lRem (Nat.lt_of_le_of_lt (Nat.div_le_self _ _) hv) (by omega) (by omega), lN_i]
      have dgX : 0 < mn → (X / lN (b ^ r) - X / lN (b ^ r) / (nI b).toInt64 * (nI b).toInt64).toInt32 = nI (x / b ^ r % b) := fun h => by rw [hX h]; exact dg x hx
      have dgY : 1 < mn → (Y / lN (b ^ r) - Y / lN (b ^ r) / (nI b).toInt64 * (nI b).toInt64).toInt32 = nI (y / b ^ r % b) := fun h => by rw [hY h]; exact dg y hy
      have dgZ : 2 < mn → (Z / lN (b ^ r) - Z / lN (b ^ r) / (nI b).toInt64 * (nI b).toInt64).toInt32 = nI (z / b ^ r % b) := fun h => by rw [hZ h]; exact dg z hz
      have hcd : cd b mn x y z r < b ^ mn := cd_lt hb1 hm
      have hgo : LX1_readsAll_23 G (d + 1) 0 0 o (nI mn) X Y Z (nI b) (nI (st q (cd b mn x y z r))) (lN (b ^ r / b)) (nI (j + 1)) none M Q := ih (j + 1) (by omega) _ (hc q hq _ hcd) hw none rfl
      have hgo2 : ∀ zz, c1 zz = true → LX1_readsAll_23 G (d + 1) 0 0 o (nI mn) X Y Z (nI b) (nI (st q (cd b mn x y z r))) (lN (b ^ r / b)) (nI (j + 1)) zz M Q := fun zz hzz => ih (j + 1) (by omega) _ (hc q hq _ hcd) hw zz hzz
      have hdv : lN (b ^ r) / (nI b).toInt64 = lN (b ^ r / b) := by rw [ebl, pk_lDiv hp63 (by omega) (by omega)]
      have n84 : ∀ c, (mn ≤ 2 → c = cd b mn x y z r) → (mn = 3 → c = x / b ^ r % b * b + y / b ^ r % b) → LX1_readsAll_84 G (d + 1) 0 0 o (nI mn) X Y Z (nI b) (nI q) (lN (b ^ r)) (nI j) (nI c) M Q := by
        intro c h2 h3
        refine vX1_readsAll_84 _ _ _ _ _ _ _ _ _ _ ⟨fun q2 => ?_, fun q2 => ?_⟩
        · have hm2 : mn ≤ 2 := (nI_leI (a := mn) (b := 2) (by omega) (by omega)).mp q2
          rw [h2 hm2]
          refine ⟨hs.1, Call.mono (k_after d hs h hn hq hcd) ?_⟩
          rintro r1 M1 ⟨rfl, rfl⟩
          refine ⟨_, rfl, hbl0, ?_⟩
          rw [hdv, nI_1]
          exact hgo2 _ rfl
        · have hm3 : mn = 3 := by
            have : ¬ mn ≤ 2 := fun e => q2 ((nI_leI (a := mn) (b := 2) (by omega) (by omega)).mpr e)
            omega
          have ec : cd b mn x y z r = (x / b ^ r % b * b + y / b ^ r % b) * b + z / b ^ r % b := by
            unfold cd
            rw [if_neg (by omega), if_neg (by omega), if_neg (by omega)]
          refine ⟨hl0, hbl0, hs.1, ?_⟩
          rw [dgZ (by omega), pk_mul, nI_add, h3 hm3, ← ec]
          refine Call.mono (k_after d hs h hn hq hcd) ?_
          rintro r1 M1 ⟨rfl, rfl⟩
          refine ⟨_, rfl, hbl0, ?_⟩
          rw [hdv, nI_1]
          exact hgo2 _ rfl
      refine vX1_readsAll_23 _ _ _ _ _ _ _ _ _ _ hzz ⟨fun c => absurd c (nI_ge (a := j) (b := 63) (by omega) (by omega)), fun _ => ⟨fun c => ?_, fun _ => ⟨fun c => absurd c (nI_ge (a := 1) (b := b) hb1 (by omega)), fun _ => ⟨fun c => ⟨fun _ => ?_, fun c2 => ?_⟩, fun c => ⟨hl0, hbl0, fun c2 => ?_, fun c2 => ⟨hl0, hbl0, ?_⟩⟩⟩⟩⟩⟩
      · rw [lg_cmp_le, ← lN_0] at c
        have := (pk_lLE (a := b ^ r) (b := 0) hp63 (by omega)).mp c
        omega
      · have hm0 : mn = 0 := by
          have := (nI_leI (a := mn) (b := 0) (by omega) (by omega)).mp c
          omega
        have ec : cd b mn x y z r = 0 := if_pos hm0
        exact n84 0 (fun _ => ec.symm) (fun e => by omega)
      · have hm0 := (nI_leI (a := mn) (b := 0) (by omega) (by omega)).mp c
        exact absurd (nI_le (a := mn) (b := 1) (by omega) (by omega)) c2
      · have hm1 : mn = 1 := by
          have h1 := (nI_leI (a := mn) (b := 1) (by omega) (by omega)).mp c2
          have h2 : ¬ mn ≤ 0 := fun e => c (nI_le (a := mn) (b := 0) e (by omega))
          omega
        have ec : cd b mn x y z r = x / b ^ r % b := by
          unfold cd
          rw [if_neg (by omega), if_pos hm1]
        rw [dgX (by omega)]
        exact n84 _ (fun _ => ec.symm) (fun e => by omega)
      · have hm2 : ¬ mn ≤ 1 := fun e => c2 (nI_le (a := mn) (b := 1) e (by omega))
        rw [dgX (by omega), dgY (by omega), pk_mul, nI_add]
        refine n84 _ (fun e => ?_) (fun _ => rfl)
        unfold cd
        rw [if_neg (by omega), if_neg (by omega), if_pos (by omega)]
  have fin := key E 0 (by omega) 0 hn0 rfl none rfl
  refine eX1_readsAll o _ _ _ _ _ ⟨fun c => ?_, fun c => ?_⟩
  · have h3 : b = 3 := by
      rcases hb with e | e
      · exact absurd (by rw [e]; rfl) c
      · exact e
    subst h3
    have : E = 40 := by rw [← hE]; rfl
    rw [this] at fin
    exact fin
  · have h2 : b = 2 := (nI_eq (a := b) (b := 2) (by omega) (by omega)).mp c
    subst h2
    have : E = 63 := by rw [← hE]; rfl
    rw [this] at fin
    exact fin
end ReadsAny
