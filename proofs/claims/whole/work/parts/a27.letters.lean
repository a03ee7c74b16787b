/-! ===== Least reads; Weaver: letters of rows ===== -/
section ReadsC
/-- the e-th digits of so many numbers at once -/
def cd (b mn x y z e : Nat) : Nat := if mn = 0 then 0 else if mn = 1 then x / b ^ e % b else if mn = 2 then x / b ^ e % b * b + y / b ^ e % b else (x / b ^ e % b * b + y / b ^ e % b) * b + z / b ^ e % b
def rw_ (b mn x y z : Nat) : Nat → List Nat
  | 0 => []
  | e + 1 => cd b mn x y z e :: rw_ b mn x y z e
theorem cd_lt {b mn x y z e : Nat} (hb : 1 < b) (hm : mn ≤ 3) : cd b mn x y z e < b ^ mn := by
  have h1 : x / b ^ e % b < b := Nat.mod_lt _ (by omega)
  have h2 : y / b ^ e % b < b := Nat.mod_lt _ (by omega)
  have h3 : z / b ^ e % b < b := Nat.mod_lt _ (by omega)
  have m2 : x / b ^ e % b * b + y / b ^ e % b < b * b := by
    have : (x / b ^ e % b + 1) * b ≤ b * b := Nat.mul_le_mul_right b h1
    rw [Nat.succ_mul] at this
    omega
  unfold cd
  by_cases c0 : mn = 0
  · rw [if_pos c0, c0]; exact Nat.one_pos
  rw [if_neg c0]
  by_cases c1 : mn = 1
  · rw [if_pos c1, c1, Nat.pow_one]; exact h1
  rw [if_neg c1]
  by_cases c2 : mn = 2
  · rw [if_pos c2, c2, Nat.pow_two]; exact m2
  rw [if_neg c2]
  have c3 : mn = 3 := by omega
  rw [c3, show b ^ 3 = b * b * b from by rw [Nat.pow_succ, Nat.pow_two]]
  have : (x / b ^ e % b * b + y / b ^ e % b + 1) * b ≤ b * b * b := Nat.mul_le_mul_right b m2
  rw [Nat.succ_mul] at this
  omega
theorem rw_wd {b mn x y z : Nat} (hb : 1 < b) (hm : mn ≤ 3) : ∀ e, wd (b ^ mn) (rw_ b mn x y z e)
  | 0 => wd_nil
  | e + 1 => wd_cons (cd_lt hb hm) (rw_wd hb hm e)
variable {G : GG} {M : Mem} {o mv mk nm nk n b : Nat} {st : Nat → Nat → Nat} {mr : Nat → Nat} {Q : Option Value → Mem → Prop}
theorem lN_0 : lN 0 = 0 := rfl
theorem w_readsAll (d : Nat) (hb : b = 2 ∨ b = 3) {mn x y z : Nat} (hm : mn ≤ 3) (hs : LeS M o mv mk nm nk) (h : LeI M o mv mk n (b ^ mn) st mr) (hn : n * b ^ mn ≤ nm) (hn0 : 0 < n) (hc : ∀ i, i < n → ∀ g, g < b ^ mn → st i g < n) (hx : x < 2 ^ 63) (hy : y < 2 ^ 63) (hz : z < 2 ^ 63) (hQ : Q (some (.int (nI (rn st 0 (rw_ b mn x y z (if b = 2 then 63 else 40)))))) M) : Call G (d + 2) 0 0 mX1_readsAll [.ref o, .int (nI mn), .long (lN x), .long (lN y), .long (lN z), .int (nI b)] M Q := by
  have hb1 : 1 < b := by omega
  have ebl : (nI b).toInt64 = lN b := nI_l (by omega)
  have hnb : n < 2 ^ 31 := by
    have h1 : n ≤ n * b ^ mn := Nat.le_mul_of_pos_right n (Nat.pow_pos (by omega))
    have := hs.2.2.2.2.2.2.2.2.1
    omega
  have hbl0 : ¬ (nI b).toInt64 = 0 := by
    rw [ebl, ← lN_0]
    intro e
    have := (pk_lEQ (a := b) (b := 0) (by omega) (by omega)).mp e
    omega
  generalize hE : (if b = 2 then 63 else 40) = E at hQ
  have hpw : ∀ e, e < E → b ^ e < 2 ^ 63 := by
    intro e he
    rcases hb with rfl | rfl
    · simp at hE
      exact Nat.pow_lt_pow_right (by omega) (by omega)
    · simp at hE
      have : 3 ^ e ≤ 3 ^ 39 := Nat.pow_le_pow_right (by omega) (by omega)
      omega
  have hE63 : E ≤ 63 := by rw [← hE]; split <;> omega
  have key : ∀ r j, j + r = E → ∀ q, q < n → rn st q (rw_ b mn x y z r) = rn st 0 (rw_ b mn x y z E) → ∀ zz, c1 zz = true → LX1_readsAll_23 G (d + 1) 0 0 o (nI mn) (lN x) (lN y) (lN z) (nI b) (nI q) (lN (b ^ r / b)) (nI j) zz M Q := by
    intro r
    induction r with
    | zero =>
      intro j hj q hq hw zz hzz
      have e0 : b ^ 0 / b = 0 := Nat.div_eq_of_lt (by simpa using hb1)
      have hq' : Q (some (.int (nI q))) M := by
        have : rn st q (rw_ b mn x y z 0) = q := rfl
        rw [← this, hw]; exact hQ
      rw [e0]
      refine vX1_readsAll_23 _ _ _ _ _ _ _ _ _ _ hzz ⟨fun _ => hq', fun _ => ⟨fun _ => hq', fun c => absurd ((lg_cmp_le _ _).mpr (by decide)) c⟩⟩
    | succ r ih =>
      intro j hj q hq hw zz hzz
      have e0 : b ^ (r + 1) / b = b ^ r := by rw [Nat.pow_succ]; exact Nat.mul_div_cancel _ (by omega)
      rw [e0]
      have hp0 : 0 < b ^ r := Nat.pow_pos (by omega)
      have hp63 : b ^ r < 2 ^ 63 := hpw r (by omega)
      have hl0 : ¬ lN (b ^ r) = 0 := by
        rw [← lN_0]
        intro e
        have := (pk_lEQ (a := b ^ r) (b := 0) (by omega) (by omega)).mp e
        omega
      have dg : ∀ v, v < 2 ^ 63 → (lN v / lN (b ^ r) - lN v / lN (b ^ r) / (nI b).toInt64 * (nI b).toInt64).toInt32 = nI (v / b ^ r % b) := fun v hv => by
        rw [ebl, pk_lDiv hv hp0 hp63, pk_lRem (Nat.lt_of_le_of_lt (Nat.div_le_self _ _) hv) (by omega) (by omega), lN_i]
      have hcd : cd b mn x y z r < b ^ mn := cd_lt hb1 hm
      have hgo : LX1_readsAll_23 G (d + 1) 0 0 o (nI mn) (lN x) (lN y) (lN z) (nI b) (nI (st q (cd b mn x y z r))) (lN (b ^ r / b)) (nI (j + 1)) none M Q := ih (j + 1) (by omega) _ (hc q hq _ hcd) hw none rfl
      have hgo2 : ∀ zz, c1 zz = true → LX1_readsAll_23 G (d + 1) 0 0 o (nI mn) (lN x) (lN y) (lN z) (nI b) (nI (st q (cd b mn x y z r))) (lN (b ^ r / b)) (nI (j + 1)) zz M Q := fun zz hzz => ih (j + 1) (by omega) _ (hc q hq _ hcd) hw zz hzz
      have hdv : lN (b ^ r) / (nI b).toInt64 = lN (b ^ r / b) := by rw [ebl, pk_lDiv hp63 (by omega) (by omega)]
      have n84 : ∀ c, (mn ≤ 2 → c = cd b mn x y z r) → (mn = 3 → c = x / b ^ r % b * b + y / b ^ r % b) → LX1_readsAll_84 G (d + 1) 0 0 o (nI mn) (lN x) (lN y) (lN z) (nI b) (nI q) (lN (b ^ r)) (nI j) (nI c) M Q := by
        intro c h2 h3
        refine vX1_readsAll_84 _ _ _ _ _ _ _ _ _ _ ⟨fun q2 => ?_, fun q2 => ?_⟩
        · have hm2 : mn ≤ 2 := (nI_leI (a := mn) (b := 2) (by omega) (by omega)).mp q2
          rw [h2 hm2]
          refine ⟨hs.1, Call.mono (k_after d hs h hn hq hcd) ?_⟩
          rintro r1 M1 ⟨rfl, rfl⟩
          refine ⟨_, rfl, hbl0, ?_⟩
          rw [hdv, nI_1]
          exact hgo2 _ rfl
        · have hm3 : mn = 3 := by
            have : ¬ mn ≤ 2 := fun e => q2 ((nI_leI (a := mn) (b := 2) (by omega) (by omega)).mpr e)
            omega
          have ec : cd b mn x y z r = (x / b ^ r % b * b + y / b ^ r % b) * b + z / b ^ r % b := by
            unfold cd
            rw [if_neg (by omega), if_neg (by omega), if_neg (by omega)]
          refine ⟨hl0, hbl0, hs.1, ?_⟩
          rw [dg z hz, pk_mul, nI_add, h3 hm3, ← ec]
          refine Call.mono (k_after d hs h hn hq hcd) ?_
          rintro r1 M1 ⟨rfl, rfl⟩
          refine ⟨_, rfl, hbl0, ?_⟩
          rw [hdv, nI_1]
          exact hgo2 _ rfl
      refine vX1_readsAll_23 _ _ _ _ _ _ _ _ _ _ hzz ⟨fun c => absurd c (nI_ge (a := j) (b := 63) (by omega) (by omega)), fun _ => ⟨fun c => ?_, fun _ => ⟨fun c => absurd c (nI_ge (a := 1) (b := b) hb1 (by omega)), fun _ => ⟨fun c => ⟨fun _ => ?_, fun c2 => ?_⟩, fun c => ⟨hl0, hbl0, fun c2 => ?_, fun c2 => ⟨hl0, hbl0, ?_⟩⟩⟩⟩⟩⟩
      · rw [lg_cmp_le, ← lN_0] at c
        have := (pk_lLE (a := b ^ r) (b := 0) hp63 (by omega)).mp c
        omega
      · have hm0 : mn = 0 := by
          have := (nI_leI (a := mn) (b := 0) (by omega) (by omega)).mp c
          omega
        have ec : cd b mn x y z r = 0 := if_pos hm0
        exact n84 0 (fun _ => ec.symm) (fun e => by omega)
      · have hm0 := (nI_leI (a := mn) (b := 0) (by omega) (by omega)).mp c
        exact absurd (nI_le (a := mn) (b := 1) (by omega) (by omega)) c2
      · have hm1 : mn = 1 := by
          have h1 := (nI_leI (a := mn) (b := 1) (by omega) (by omega)).mp c2
          have h2 : ¬ mn ≤ 0 := fun e => c (nI_le (a := mn) (b := 0) e (by omega))
          omega
        have ec : cd b mn x y z r = x / b ^ r % b := by
          unfold cd
          rw [if_neg (by omega), if_pos hm1]
        rw [dg x hx]
        exact n84 _ (fun _ => ec.symm) (fun e => by omega)
      · have hm2 : ¬ mn ≤ 1 := fun e => c2 (nI_le (a := mn) (b := 1) e (by omega))
        rw [dg x hx, dg y hy, pk_mul, nI_add]
        refine n84 _ (fun e => ?_) (fun _ => rfl)
        unfold cd
        rw [if_neg (by omega), if_neg (by omega), if_pos (by omega)]
  have fin := key E 0 (by omega) 0 hn0 rfl none rfl
  refine eX1_readsAll o _ _ _ _ _ ⟨fun c => ?_, fun c => ?_⟩
  · have h3 : b = 3 := by
      rcases hb with e | e
      · exact absurd (by rw [e]; rfl) c
      · exact e
    subst h3
    have : E = 40 := by rw [← hE]; rfl
    rw [this] at fin
    exact fin
  · have h2 : b = 2 := (nI_eq (a := b) (b := 2) (by omega) (by omega)).mp c
    subst h2
    have : E = 63 := by rw [← hE]; rfl
    rw [this] at fin
    exact fin
end ReadsC
section LettersC
/-- a tuple of states as a key -/
def kh (n : Nat) (P : Nat → Nat) : Nat → Nat → Nat
  | 0, _ => 0
  | c + 1, s => kh n P c (s + 1) * n + P s
theorem kh_lt {n : Nat} {P : Nat → Nat} : ∀ (c s : Nat), (∀ j, j < c → P (s + j) < n) → kh n P c s < n ^ c
  | 0, _, _ => Nat.one_pos
  | c + 1, s, h => by
    have ih := kh_lt c (s + 1) (fun j hj => by have := h (j + 1) (by omega); rwa [show s + (j + 1) = s + 1 + j by omega] at this)
    have h0 := h 0 (by omega)
    show kh n P c (s + 1) * n + P s < n ^ (c + 1)
    have : (kh n P c (s + 1) + 1) * n ≤ n ^ c * n := Nat.mul_le_mul_right n ih
    rw [Nat.succ_mul] at this
    rw [Nat.pow_succ]
    rw [Nat.add_zero] at h0
    omega
theorem kh_at {n : Nat} {P : Nat → Nat} : ∀ (c s j : Nat), (∀ j, j < c → P (s + j) < n) → j < c → kh n P c s / n ^ j % n = P (s + j)
  | 0, _, j, _, hj => absurd hj (Nat.not_lt_zero j)
  | c + 1, s, 0, h, _ => by
    have h0 := h 0 (by omega)
    rw [Nat.add_zero] at h0
    show (kh n P c (s + 1) * n + P s) / 1 % n = P (s + 0)
    rw [Nat.div_one, Nat.mul_comm, Nat.mul_add_mod, Nat.mod_eq_of_lt h0]
    rfl
  | c + 1, s, j + 1, h, hj => by
    have h0 := h 0 (by omega)
    rw [Nat.add_zero] at h0
    have ih := kh_at c (s + 1) j (fun j hj => by have := h (j + 1) (by omega); rwa [show s + (j + 1) = s + 1 + j by omega] at this) (by omega)
    show (kh n P c (s + 1) * n + P s) / n ^ (j + 1) % n = P (s + (j + 1))
    rw [Nat.pow_succ, Nat.mul_comm (n ^ j) n, ← Nat.div_div_eq_div_mul, Nat.mul_comm _ n, Nat.mul_add_div (by omega), Nat.div_eq_of_lt h0, Nat.add_zero, ih]
    congr 1
    omega
theorem kh_ext {n : Nat} {P P' : Nat → Nat} : ∀ (c s : Nat), (∀ j, j < c → P (s + j) = P' (s + j)) → kh n P c s = kh n P' c s
  | 0, _, _ => rfl
  | c + 1, s, h => by
    show kh n P c (s + 1) * n + P s = kh n P' c (s + 1) * n + P' s
    have ih := kh_ext (n := n) (P := P) (P' := P') c (s + 1) (fun j hj => by have := h (j + 1) (by omega); rwa [show s + (j + 1) = s + 1 + j by omega] at this)
    have h0 := h 0 (by omega)
    rw [Nat.add_zero] at h0
    rw [ih, h0]
/-- where a row's machine stands behind the sum so far plus j, after more digits -/
def tpD (st : Nat → Nat → Nat) (b : Nat) (P : Nat → Nat) (v : Nat) : Nat → Nat := fun j => st (P ((v + j) / b)) ((v + j) % b)
def tz (st : Nat → Nat → Nat) (b : Nat) (lf : Nat → Nat) : (Nat → Nat) → List Nat → (Nat → Nat)
  | P, [] => P
  | P, g :: u => tz st b lf (tpD st b P (lf g)) u
def tp0 (st : Nat → Nat → Nat) (b : Nat) : Nat → Nat := fun j => st (st 0 (j / b)) (j % b)
def sumT (tf : Nat → Nat) : Nat → Nat
  | 0 => 0
  | i + 1 => sumT tf i + tf i
def ldn (b al : Nat) (tf : Nat → Nat) (g : Nat) : Nat := (ld b al (fun n => (tf n : Int)) g).toNat
theorem lowS_T {tf : Nat → Nat} : ∀ i, lowS (fun n => (tf n : Int)) i = - (sumT tf i : Int)
  | 0 => rfl
  | i + 1 => by
    have ih := lowS_T (tf := tf) i
    show lowS (fun n => (tf n : Int)) i - max (tf i : Int) 0 = - ((sumT tf i + tf i : Nat) : Int)
    rw [ih]
    omega
theorem higS_T {tf : Nat → Nat} : ∀ i, higS (fun n => (tf n : Int)) i = 0
  | 0 => rfl
  | i + 1 => by
    have ih := higS_T (tf := tf) i
    show higS (fun n => (tf n : Int)) i - min (tf i : Int) 0 = 0
    rw [ih]
    omega
theorem ldn_le {b al : Nat} {tf : Nat → Nat} {g : Nat} (hb : b = 2 ∨ b = 3) : ((ldn b al tf g : Nat) : Int) = ld b al (fun n => (tf n : Int)) g ∧ ldn b al tf g ≤ (b - 1) * sumT tf 8 := by
  have h := (ld_bd (al := al) (wt := fun n => (tf n : Int)) (k := g) hb).2
  rw [lowS_T, higS_T] at h
  unfold ldn
  generalize ld b al (fun n => (tf n : Int)) g = L at h ⊢
  generalize sumT tf 8 = T at h ⊢
  rcases hb with rfl | rfl <;> omega
def leD (st : Nat → Nat → Nat) (b n L : Nat) (lf : Nat → Nat) (x g : Nat) : Nat := kh n (tpD st b (fun j => x / n ^ j % n) (lf g)) (L + 1) 0
def leM (mr : Nat → Nat) (n c x : Nat) : Nat := mr (x / n ^ c % n)
variable {G : GG} {M : Mem} {w b n L : Nat} {st : Nat → Nat → Nat} {mr : Nat → Nat} {Q : Option Value → Mem → Prop}
theorem le_tells {lf : Nat → Nat} {c : Nat} (hb : 1 < b) (hc : ∀ i, i < n → ∀ g, g < b → st i g < n) (hlf : ∀ g, lf g + L < (L + 1) * b) (hcL : c ≤ L) :
    ∀ (u : List Nat) (x : Nat) (P : Nat → Nat), (∀ j, j ≤ L → P j < n) → (∀ j, j ≤ L → x / n ^ j % n = P j) → leM mr n c (dl (leD st b n L lf) x u) = mr (tz st b lf P u c)
  | [], x, P, _, h => by
    show mr (x / n ^ c % n) = mr (P c)
    rw [h c hcL]
  | g :: u, x, P, hP, h => by
    have hpl : ∀ j, j ≤ L → (lf g + j) / b ≤ L := fun j hj => by
      have := hlf g
      have : (lf g + j) / b < L + 1 := Nat.div_lt_of_lt_mul (by rw [Nat.mul_comm]; omega)
      omega
    have hlt : ∀ j, j ≤ L → tpD st b P (lf g) j < n := fun j hj => hc _ (hP _ (hpl j hj)) _ (Nat.mod_lt _ (by omega))
    have he : ∀ j, j ≤ L → tpD st b (fun j => x / n ^ j % n) (lf g) j = tpD st b P (lf g) j := fun j hj => by
      show st (x / n ^ ((lf g + j) / b) % n) _ = st (P ((lf g + j) / b)) _
      rw [h _ (hpl j hj)]
    refine le_tells hb hc hlf hcL u _ _ hlt (fun j hj => ?_)
    show kh n (tpD st b (fun j => x / n ^ j % n) (lf g)) (L + 1) 0 / n ^ j % n = _
    rw [kh_at (L + 1) 0 j (fun j hj => by rw [Nat.zero_add, he j (by omega)]; exact hlt j (by omega)) (by omega), Nat.zero_add, he j hj]
theorem w_placeIn (d : Nat) {x j : Nat} (hx : x < 2 ^ 31) (hn : 0 < n) (hn2 : n < 2 ^ 31) (hj : j ≤ 8) (hQ : Q (some (.int (nI (x / n ^ j % n)))) M) : Call G (d + 1) 0 0 mX10_placeIn [.int (nI x), .int (nI n), .int (nI j)] M Q := by
  refine eX10_placeIn _ _ _ ?_
  have hn0 : ¬ nI n = 0 := nI_ne0 hn hn2
  have key : ∀ r i, i + r = j → LX10_placeIn_5 G d 0 0 (nI x) (nI n) (nI j) (nI (x / n ^ i)) (nI i) M Q := by
    intro r
    induction r with
    | zero =>
      intro i hi
      have e : i = j := by omega
      subst e
      have hx2 : x / n ^ i < 2 ^ 31 := Nat.lt_of_le_of_lt (Nat.div_le_self _ _) hx
      refine vX10_placeIn_5 _ _ _ _ _ ⟨fun _ => ⟨fun c => absurd c (nI_nle hn hn2), fun _ => ⟨hn0, ?_⟩⟩, fun c => absurd (nI_le (Nat.le_refl i) (by omega)) c⟩
      rw [pk_rem hx2 hn hn2]
      exact hQ
    | succ r ih =>
      intro i hi
      have hx2 : x / n ^ i < 2 ^ 31 := Nat.lt_of_le_of_lt (Nat.div_le_self _ _) hx
      refine vX10_placeIn_5 _ _ _ _ _ ⟨fun c => absurd c (nI_ge (by omega) (by omega)), fun _ => ⟨fun c => absurd c (nI_ge (a := i) (b := 8) (by omega) (by omega)), fun _ => ⟨fun c => absurd c (nI_nle hn hn2), fun _ => ⟨hn0, ?_⟩⟩⟩⟩
      rw [pk_div hx2 hn hn2, Nat.div_div_eq_div_mul, ← Nat.pow_succ, nI_1]
      exact ih (i + 1) (by omega)
  have := key j 0 (by omega)
  have e1 : x / n ^ 0 = x := Nat.div_one x
  rw [e1] at this
  exact this
theorem w_keyOfPlaces (d : Nat) (hw : (x_h M w).1 = 26) (h6 : x_r M w 6 = some (w + 18)) (h18 : x_h M (w + 18) = (1, 4)) {P : Nat → Nat} (hL : L ≤ 3) (hP : ∀ j, j ≤ L → x_i M (w + 18) j = nI (P j)) (hQ : Q (some (.int (nI (kh n P (L + 1) 0)))) M) : Call G (d + 2) 0 0 mX10_keyOfPlaces [.ref w, .int (nI n), .int (nI L)] M Q := by
  refine eX10_keyOfPlaces w _ _ ⟨hw, w + 18, h6, by rw [h18]; exact k18, ?_⟩
  rw [h18]
  have e3 : nI 4 - 1 = nI 3 := by decide
  show Call G (d + 1) 0 0 mJ9_min_7cf53 [.int (nI L), .int (nI 4 - 1)] M _
  rw [e3]
  refine w_min d (by omega) (by omega) ⟨_, rfl, ?_⟩
  rw [Nat.min_eq_left hL]
  have key : ∀ r, r ≤ L + 1 → LX10_keyOfPlaces_15 G (d + 1) 0 0 w (nI n) (nI L) (nI (kh n P (L + 1 - r) r)) (nI r + (-1)) M Q := by
    intro r
    induction r with
    | zero =>
      intro _
      exact vX10_keyOfPlaces_15 _ _ _ _ _ ⟨fun _ => hQ, fun c => absurd (by decide) c⟩
    | succ r ih =>
      intro hr
      rw [pk_m1]
      refine vX10_keyOfPlaces_15 _ _ _ _ _ ⟨fun c => absurd c (nI_pos (by omega)), fun _ => ⟨hw, w + 18, h6, by rw [h18], by rw [h18]; exact vp_in_nI (show r < 4 by omega) (by omega), ?_⟩⟩
      rw [nI_clamp (by omega), hP r (by omega), pk_mul, nI_add]
      have e : kh n P (L + 1 - r) r = kh n P (L + 1 - (r + 1)) (r + 1) * n + P r := by
        rw [show L + 1 - r = (L + 1 - (r + 1)) + 1 by omega]
        rfl
      rw [← e]
      exact ih (by omega)
  have := key (L + 1) (Nat.le_refl _)
  rw [pk_m1, Nat.sub_self] at this
  exact this
theorem w_weaveLetters (d : Nat) (hw : WeS M w) (e11 : x_i M w 11 = nI b) (hb : b = 2 ∨ b = 3) {s al c q qv qk qm qn r rv rk rm rl : Nat} {tf : Nat → Nat} (hs1 : (x_h M s).1 = 24) (hs2 : x_r M s 0 = some (s + 1)) (hs3 : x_h M (s + 1) = (1, 8)) (hsd : s ∉ [w + 1, w + 2, w + 3, w + 4, w + 5, w + 6, w + 7, w + 8, w + 18] ∧ s + 1 ∉ [w + 1, w + 2, w + 3, w + 4, w + 5, w + 6, w + 7, w + 8, w + 18])
    (i2 : x_i M s 2 = nI c) (i3 : x_i M s 3 = nI al) (hal : al < 256) (htf : ∀ k, k < 8 → x_i M (s + 1) k = nI (tf k)) (hT0 : 0 < sumT tf 8) (hL : L = max (sumT tf 8 - 1) c) (hL3 : L ≤ 3) (hf9 : fn b al ≤ 9)
    (hr : LeS M r rv rk rm rl) (hri : LeI M r rv rk n b st mr) (hrd : ∀ y ∈ [r, rv, rk], y ∉ [w + 1, w + 2, w + 3, w + 4, w + 5, w + 6, w + 7, w + 8, w + 18]) (hn0 : 0 < n) (hrm : n * b ≤ rm) (hrl : n ≤ rl) (hc : ∀ i, i < n → ∀ g, g < b → st i g < n) (h00 : st 0 0 = 0) (hmr : ∀ i, i < n → mr i < 8) (hroom : n ^ (L + 1) ≤ 3600) (hroom2 : n ^ (L + 1) * fn b al ≤ 43200)
    (hq : LeS M q qv qk qm qn) (hqd : ∀ y ∈ [q, qv, qk], y < w + 1 ∨ w + 1 + 7 < y) (hqn : 40 ≤ qn) (hqm : 40 * fn b al ≤ qm)
    (hQ1 : ∀ M' m st' mr', Fr M M' [w + 1, w + 2, w + 3, w + 4, w + 5, w + 6, w + 7, w + 8, w + 18, q, qv, qk] → m ≤ 40 → LeI M' q qv qk m (fn b al) st' mr' → Can (fn b al) m st' mr' (fun u => mr (tz st b (ldn b al tf) (tp0 st b) u c)) → Q (some (.int (nI 1))) M')
    (hQ0 : ∀ M', Fr M M' [w + 1, w + 2, w + 3, w + 4, w + 5, w + 6, w + 7, w + 8, w + 18, q, qv, qk] → (∀ m st' mr', Can (fn b al) m st' mr' (fun u => mr (tz st b (ldn b al tf) (tp0 st b) u c)) → 40 < m) → Q (some (.int (nI 0))) M') :
    Call G (d + 5) 0 0 mX10_weaveLetters [.ref w, .ref s, .ref r, .ref q] M Q := by
  have hw0 := hw
  obtain ⟨w1, w2, w3, w4, w5, w6, w7, w8, w9, w10, w11, w12, w13, w14, u15, u16, u17, u18, -⟩ := hw
  have hb1 : 1 < b := by omega
  have hb3 : b ≤ 3 := by omega
  have hf0 : 0 < fn b al := fn_pos (by omega)
  have hT4 : sumT tf 8 ≤ 4 := by omega
  have hlfb : ∀ g, ldn b al tf g + L < (L + 1) * b := fun g => by
    have := (ldn_le (al := al) (tf := tf) (g := g) hb).2
    have h2 : sumT tf 8 ≤ L + 1 := by omega
    generalize ldn b al tf g = y at this ⊢
    rcases hb with rfl | rfl <;> omega
  have hlfI : ∀ g, ld b al (fun n => (tf n : Int)) g = ((ldn b al tf g : Nat) : Int) := fun g => (ldn_le hb).1.symm
  generalize hlf : ldn b al tf = lf at *
  generalize hfg : fn b al = f at *
  have hcL : c ≤ L := by omega
  have hpl : ∀ g j, j ≤ L → (lf g + j) / b ≤ L := fun g j hj => by
    have := hlfb g
    have : (lf g + j) / b < L + 1 := Nat.div_lt_of_lt_mul (by rw [Nat.mul_comm]; omega)
    omega
  have hnR : n ≤ n ^ (L + 1) := by
    have := Nat.pow_le_pow_right (n := n) hn0 (show 1 ≤ L + 1 by omega)
    rwa [Nat.pow_one] at this
  have hn60 : n ≤ 3600 := by omega
  have hmdn : ∀ y, y % n < n := fun y => Nat.mod_lt y hn0
  have hδlt : ∀ x g j, tpD st b (fun j => x / n ^ j % n) (lf g) j < n := fun x g j => hc _ (hmdn _) _ (Nat.mod_lt _ (by omega))
  have hδ : ∀ x g, leD st b n L lf x g < n ^ (L + 1) := fun x g => kh_lt _ _ (fun j _ => hδlt x g _)
  have hμ : ∀ x, leM mr n c x < 8 := fun x => hmr _ (hmdn _)
  have hP0 : ∀ j, j ≤ L → tp0 st b j < n := fun j hj => hc _ (hc 0 hn0 _ (by
    have : j / b ≤ j / 2 := Nat.div_le_div_left hb1 (by omega)
    omega)) _ (Nat.mod_lt _ (by omega))
  have hbeta : ∀ u, leM mr n c (dl (leD st b n L lf) (kh n (tp0 st b) (L + 1) 0) u) = mr (tz st b lf (tp0 st b) u c) := fun u => le_tells hb1 hc hlfb hcL u _ _ hP0 (fun j hj => by
    rw [kh_at (L + 1) 0 j (fun j hj => by rw [Nat.zero_add]; exact hP0 j (by omega)) (by omega), Nat.zero_add])
  generalize hk0 : kh n (tp0 st b) (L + 1) 0 = k0 at hbeta
  have hk0lt : k0 < n ^ (L + 1) := by rw [← hk0]; exact kh_lt _ _ (fun j hj => by rw [Nat.zero_add]; exact hP0 j (by omega))
  have hrr : ∀ {M' : Mem}, Fr M M' [w + 1, w + 2, w + 3, w + 4, w + 5, w + 6, w + 7, w + 8, w + 18] → LeS M' r rv rk rm rl ∧ LeI M' r rv rk n b st mr := fun h => ⟨hr.fF h, hri.fF h hrd⟩
  have hW11 : ∀ {M' : Mem}, Fr M M' [w + 1, w + 2, w + 3, w + 4, w + 5, w + 6, w + 7, w + 8, w + 18] → x_i M' w 11 = nI b := fun h => by rw [h.i (by simp)]; exact e11
  have hS : ∀ {M' : Mem}, Fr M M' [w + 1, w + 2, w + 3, w + 4, w + 5, w + 6, w + 7, w + 8, w + 18] → x_i M' s = x_i M s ∧ x_i M' (s + 1) = x_i M (s + 1) := fun h => ⟨h.i hsd.1, h.i hsd.2⟩
  have hf27 : f ≤ 27 := by omega
  -- j of the tuple
  have inj : ∀ (i x g : Nat), x < n ^ (L + 1) → g < f → ∀ (z : Option Value), c1 z = true →
      (∀ M' zz zz1 zz2, Fr M M' [w + 1, w + 2, w + 3, w + 4, w + 5, w + 6, w + 7, w + 8, w + 18] → ∀ C, ExI M' (w + 1) (n ^ (L + 1)) f (leD st b n L lf) k0 (leM mr n c) C (i + 1) → C = i * f + g + 1 → i < (ex (leD st b n L lf) f k0 C).length → (ex (leD st b n L lf) f k0 C).getD i 0 = x → c1 zz = true → c1 zz1 = true → c1 zz2 = true → LX10_weaveLetters_202 G (d + 4) 0 0 w s r q (nI (sumT tf 8)) (nI L) (nI f) (nI i) (nI x) (nI (g + 1)) zz zz1 zz2 M' Q) →
      ∀ (k j : Nat), j + k = L + 1 → ∀ M', Fr M M' [w + 1, w + 2, w + 3, w + 4, w + 5, w + 6, w + 7, w + 8, w + 18] → ExI M' (w + 1) (n ^ (L + 1)) f (leD st b n L lf) k0 (leM mr n c) (i * f + g) (i + 1) → i < (ex (leD st b n L lf) f k0 (i * f + g)).length → (ex (leD st b n L lf) f k0 (i * f + g)).getD i 0 = x → (∀ t, t < j → x_i M' (w + 18) t = nI (tpD st b (fun j => x / n ^ j % n) (lf g) t)) → ∀ z, c1 z = true → LX10_weaveLetters_228 G (d + 4) 0 0 w s r q (nI (sumT tf 8)) (nI L) (nI f) (nI i) (nI x) (nI g) (nI (lf g)) (nI j) z M' Q := by
    intro i x g hx hg z0 hz0 hout k
    have c1' : (i * f + g) / f = i := by rw [Nat.mul_comm, Nat.mul_add_div hf0, Nat.div_eq_of_lt hg]; rfl
    have c2' : (i * f + g) % f = g := by rw [Nat.mul_comm, Nat.mul_add_mod]; exact Nat.mod_eq_of_lt hg
    induction k with
    | zero =>
      intro j hj M' hfr he hi hxe hpt z hz
      have e : j = L + 1 := by omega
      subst e
      obtain ⟨r1, r2⟩ := hrr hfr
      refine vX10_weaveLetters_228 _ _ _ _ _ _ _ _ _ _ _ _ _ hz ⟨fun _ => ⟨(hw0.fr hfr).1, w + 1, by rw [hfr.r]; exact w5, r1.1, ?_⟩, fun c => absurd (nI_lt (by omega) (by omega)) c⟩
      rw [r2.1]
      refine w_keyOfPlaces (d + 2) (hw0.fr hfr).1 (by rw [hfr.r]; exact w11) (by rw [hfr.h]; exact u18) hL3 (fun t ht => hpt t (by omega)) ⟨_, rfl, (hw0.fr hfr).2.1.1, ?_⟩
      refine w_meetX (d + 2) (hw0.fr hfr).2.1 he (by rw [c1']; exact hi) (by rw [c1', c2', hxe]; rfl) (hδ x g) (fun M1 g1 g2 => ?_)
      have hfr1 : Fr M M1 [w + 1, w + 2, w + 3, w + 4, w + 5, w + 6, w + 7, w + 8, w + 18] := hfr.tr g1 (by simp)
      refine ⟨_, rfl, (hw0.fr hfr1).2.1.1, ?_⟩
      refine w_linkX (d + 2) (hw0.fr hfr1).2.1 g2 hf0 rfl hg hroom2 (fun M2 g3 g4 => ⟨rfl, ?_⟩)
      have hfr2 : Fr M M2 [w + 1, w + 2, w + 3, w + 4, w + 5, w + 6, w + 7, w + 8, w + 18] := hfr1.tr g3 (by simp)
      rw [nI_1]
      exact hout M2 _ _ _ hfr2 _ g4 rfl (Nat.lt_of_lt_of_le hi (ex_le _ 1)) (by rw [← hxe]; exact ex_getD _ 1 hi) rfl rfl hz
    | succ k ih =>
      intro j hj M' hfr he hi hxe hpt z hz
      obtain ⟨r1, r2⟩ := hrr hfr
      have hb0 : ¬ x_i M' w 11 = 0 := by rw [hW11 hfr]; exact nI_ne0 (by omega) (by omega)
      have hlg : lf g + j < 2 ^ 31 := by have := hlfb g; have : (L + 1) * b ≤ 4 * 3 := Nat.mul_le_mul (by omega) hb3; omega
      refine vX10_weaveLetters_228 _ _ _ _ _ _ _ _ _ _ _ _ _ hz ⟨fun c => absurd c (nI_nlt (by omega) (by omega)), fun _ => ⟨(hw0.fr hfr).1, fun c => ?_, fun _ => ⟨r1.1, hb0, ?_⟩⟩⟩
      · rw [hW11 hfr] at c
        exact absurd c (nI_ge (a := 1) (b := b) hb1 (by omega))
      · rw [hW11 hfr, r2.1, nI_add, pk_div hlg (by omega) (by omega)]
        refine w_placeIn (d + 3) (by omega) hn0 (by omega) (by have := hpl g j (by omega); omega) ⟨_, rfl, (hw0.fr hfr).1, w + 18, by rw [hfr.r]; exact w11, hb0, r1.1, ?_⟩
        rw [hW11 hfr, pk_rem hlg (by omega) (by omega)]
        refine Call.mono (k_after (d + 3) r1 r2 hrm (hmdn _) (Nat.mod_lt _ (by omega))) ?_
        rintro r' M1 ⟨rfl, rfl⟩
        refine ⟨_, rfl, by rw [hfr.h, u18], by rw [hfr.h, u18]; exact vp_in_nI (show j < 4 by omega) (by omega), ?_⟩
        rintro M2 rfl
        rw [nI_clamp (by omega), nI_1]
        have g1 : Fr M1 (x_si M1 (w + 18) j (nI (st (x / n ^ ((lf g + j) / b) % n) ((lf g + j) % b)))) [w + 18] := Fr.rf.si (by simp)
        refine ih (j + 1) (by omega) _ (hfr.si (by simp)) (he.fr g1 (by simp) (by simp) (by simp) (by simp) (by simp)) hi hxe (fun t ht => ?_) _ rfl
        by_cases et : t = j
        · rw [et, xi_eq]; rfl
        · rw [xi_nk et]; exact hpt t (by omega)
  -- the digits of a state
  have inner : ∀ (i : Nat), (∀ M' zz zz1 zz2 zz3 zz4, Fr M M' [w + 1, w + 2, w + 3, w + 4, w + 5, w + 6, w + 7, w + 8, w + 18] → ExI M' (w + 1) (n ^ (L + 1)) f (leD st b n L lf) k0 (leM mr n c) (i * f + f) (i + 1) → c1 zz = true → c1 zz1 = true → c1 zz2 = true → c1 zz3 = true → c1 zz4 = true → LX10_weaveLetters_142 G (d + 4) 0 0 w s r q (nI (sumT tf 8)) (nI L) (nI f) (nI (i + 1)) zz zz1 zz2 zz3 zz4 M' Q) →
      ∀ (k j : Nat), j + k = f → ∀ M', Fr M M' [w + 1, w + 2, w + 3, w + 4, w + 5, w + 6, w + 7, w + 8, w + 18] → ∀ x, x < n ^ (L + 1) → i < (ex (leD st b n L lf) f k0 (i * f + j)).length → (ex (leD st b n L lf) f k0 (i * f + j)).getD i 0 = x → ExI M' (w + 1) (n ^ (L + 1)) f (leD st b n L lf) k0 (leM mr n c) (i * f + j) (i + 1) → ∀ z z1 z2, c1 z = true → c1 z1 = true → c1 z2 = true → LX10_weaveLetters_202 G (d + 4) 0 0 w s r q (nI (sumT tf 8)) (nI L) (nI f) (nI i) (nI x) (nI j) z z1 z2 M' Q := by
    intro i hout k
    induction k with
    | zero =>
      intro j hj M' hfr x hx hi hxe he z z1 z2 hz hz1 hz2
      have e : j = f := by omega
      subst e
      refine vX10_weaveLetters_202 _ _ _ _ _ _ _ _ _ _ _ _ _ hz hz1 hz2 ⟨fun _ => ?_, fun c => absurd (nI_le (Nat.le_refl j) (by omega)) c⟩
      rw [nI_1]
      exact hout M' _ _ _ _ _ hfr he rfl rfl hz hz1 hz2
    | succ k ih =>
      intro j hj M' hfr x hx hi hxe he z z1 z2 hz hz1 hz2
      have hjb : j < f := by omega
      refine vX10_weaveLetters_202 _ _ _ _ _ _ _ _ _ _ _ _ _ hz hz1 hz2 ⟨fun c => absurd c (nI_ge hjb (by omega)), fun _ => ⟨by rw [hfr.h]; exact hs1, s + 1, by rw [hfr.r]; exact hs2, (hw0.fr hfr).1, ?_⟩⟩
      rw [(hS hfr).1, i3]
      refine w_load (d + 1) (hw0.fr hfr).1 (hW11 hfr) hb1 hb3 (tf := fun n => (tf n : Int)) hal (by omega) (by rw [hfr.h]; exact hs3) (fun t ht => by rw [(hS hfr).2, htf t ht]; rfl) ⟨_, rfl, ?_⟩
      rw [hlfI, ← iI_n]
      exact inj i x j hx hjb none rfl (fun M1 zz zz1 zz2 g1 C g2 hC g3 g4 hz hz1 hz2 => by
        subst hC
        exact ih (j + 1) (by omega) M1 g1 x hx g3 g4 g2 zz zz1 zz2 hz hz1 hz2) (L + 1) 0 (by omega) M' hfr he hi hxe (fun t ht => absurd ht (Nat.not_lt_zero t)) z2 hz2
  have done : ∀ i M', i ≤ n ^ (L + 1) → Fr M M' [w + 1, w + 2, w + 3, w + 4, w + 5, w + 6, w + 7, w + 8, w + 18] → ExI M' (w + 1) (n ^ (L + 1)) f (leD st b n L lf) k0 (leM mr n c) (i * f) i → (ex (leD st b n L lf) f k0 (i * f)).length = i → Call G (d + 4) 0 0 mX2_draw [.ref (w + 1), .ref q, .int 40] M' (fun r5 M6 => ∃ v7 : Int32, r5 = some (.int v7) ∧ (v7 = 0 ∨ v7 = 1) ∧ Q (some (.int v7)) M6) := by
    intro i M' hi hfr he el
    exact w_drawX d (hw0.fr hfr).2.1 he (by rw [el]) el.symm hf0 hf27 hroom2 (fun x hx => hμ x) (hq.eq hfr.h hfr.r) hqd (most := 40) (by omega) hqn hqm (fun M1 m st mr g1 g2 g3 g4 => ⟨_, rfl, Or.inr rfl, hQ1 M1 m st mr ((hfr.wk (by simp)).tr g1 (by simp)) g2 g3 (g4.congr (fun u _ => hbeta u))⟩) (fun M1 g1 g2 g3 => ⟨_, rfl, Or.inl rfl, hQ0 M1 ((hfr.wk (by simp)).tr g1 (by simp)) (fun m st mr hcan => g2 m st mr (hcan.congr (fun u _ => (hbeta u).symm)))⟩)
  have outer : ∀ (k i : Nat), i + k = n ^ (L + 1) → ∀ M', Fr M M' [w + 1, w + 2, w + 3, w + 4, w + 5, w + 6, w + 7, w + 8, w + 18] → ExI M' (w + 1) (n ^ (L + 1)) f (leD st b n L lf) k0 (leM mr n c) (i * f) i → ∀ z z1 z2 z3 z4, c1 z = true → c1 z1 = true → c1 z2 = true → c1 z3 = true → c1 z4 = true → LX10_weaveLetters_142 G (d + 4) 0 0 w s r q (nI (sumT tf 8)) (nI L) (nI f) (nI i) z z1 z2 z3 z4 M' Q := by
    intro k
    induction k with
    | zero =>
      intro i hi M' hfr he z z1 z2 z3 z4 hz hz1 hz2 hz3 hz4
      have hlen := he.1.len
      have hle := he.2.2.2.2
      have el : (ex (leD st b n L lf) f k0 (i * f)).length = i := by omega
      have e9 : x_i M' (w + 1) 9 = nI i := by rw [he.1.2.2.1, el]
      refine vX10_weaveLetters_142 _ _ _ _ _ _ _ _ _ _ _ _ _ hz hz1 hz2 hz3 hz4 ?_
      exact ⟨(hw0.fr hfr).1, w + 1, by rw [hfr.r]; exact w5, (hw0.fr hfr).2.1.1, fun _ => done i M' (by omega) hfr he el, fun c => absurd (by rw [e9]; exact nI_le (Nat.le_refl i) (by omega)) c⟩
    | succ k ih =>
      intro i hi M' hfr he z z1 z2 z3 z4 hz hz1 hz2 hz3 hz4
      have hlen := he.1.len
      have hle := he.2.2.2.2
      refine vX10_weaveLetters_142 _ _ _ _ _ _ _ _ _ _ _ _ _ hz hz1 hz2 hz3 hz4 ?_
      refine ⟨(hw0.fr hfr).1, w + 1, by rw [hfr.r]; exact w5, (hw0.fr hfr).2.1.1, fun c => ?_, fun c => ⟨fun c2 => ?_, fun _ => ?_⟩⟩
      · rw [he.1.2.2.1] at c
        have el : (ex (leD st b n L lf) f k0 (i * f)).length = i := by
          have := (nI_leI (a := (ex (leD st b n L lf) f k0 (i * f)).length) (b := i) (by omega) (by omega)).mp c
          omega
        exact done i M' (by omega) hfr he el
      · exact absurd c2 (nI_ge (a := i) (b := 3600) (by omega) (by omega))
      · rw [he.1.2.2.1] at c
        have hil : i < (ex (leD st b n L lf) f k0 (i * f)).length := by
          rcases Nat.lt_or_ge i (ex (leD st b n L lf) f k0 (i * f)).length with h | h
          · exact h
          · exact absurd (nI_le h (by omega)) c
        have hx : (ex (leD st b n L lf) f k0 (i * f)).getD i 0 < n ^ (L + 1) := he.1.2.2.2.2.2.1 _ (getD_mem hil)
        obtain ⟨r1, r2⟩ := hrr hfr
        refine w_keyX (d + 2) (hw0.fr hfr).2.1 he hil ⟨_, rfl, (hw0.fr hfr).1, w + 1, by rw [hfr.r]; exact w5, r1.1, by rw [hfr.h]; exact hs1, ?_⟩
        generalize hxe : (ex (leD st b n L lf) f k0 (i * f)).getD i 0 = x at hx
        rw [r2.1, (hS hfr).1, i2]
        refine w_placeIn (d + 3) (by omega) hn0 (by omega) (by omega) ⟨_, rfl, r1.1, ?_⟩
        refine Call.mono (k_mark (d + 2) r1 r2 hrl (hmdn _)) ?_
        rintro r' M1 ⟨rfl, rfl⟩
        refine ⟨_, rfl, (hw0.fr hfr).2.1.1, ?_⟩
        refine w_markX (d + 2) (hw0.fr hfr).2.1 he hil (by rw [hxe]; rfl) (fun M1 g1 g2 => ⟨rfl, ?_⟩)
        exact inner i (fun M2 zz zz1 zz2 zz3 zz4 g3 g4 hz hz1 hz2 hz3 hz4 => ih (i + 1) (by omega) M2 g3 (by rw [Nat.succ_mul]; exact g4) zz zz1 zz2 zz3 zz4 hz hz1 hz2 hz3 hz4) f 0 (by omega) M1 (hfr.tr g1 (by simp)) x hx hil hxe g2 z2 z3 z4 hz2 hz3 hz4
  -- the first tuple
  have tuple : ∀ (k j : Nat), j + k = L + 1 → ∀ M', Fr M M' [w + 1, w + 2, w + 3, w + 4, w + 5, w + 6, w + 7, w + 8, w + 18] → LoD M' (w + 1) (n ^ (L + 1)) f [] → (∀ t, t < j → x_i M' (w + 18) t = nI (tp0 st b t)) → LX10_weaveLetters_87 G (d + 4) 0 0 w s r q (nI (sumT tf 8)) (nI L) (nI f) (nI j) M' Q := by
    intro k
    induction k with
    | zero =>
      intro j hj M' hfr hd hpt
      have e : j = L + 1 := by omega
      subst e
      obtain ⟨r1, r2⟩ := hrr hfr
      refine vX10_weaveLetters_87 _ _ _ _ _ _ _ _ ⟨fun _ => ⟨(hw0.fr hfr).1, w + 1, by rw [hfr.r]; exact w5, r1.1, ?_⟩, fun c => absurd (nI_lt (by omega) (by omega)) c⟩
      rw [r2.1]
      refine w_keyOfPlaces (d + 2) (hw0.fr hfr).1 (by rw [hfr.r]; exact w11) (by rw [hfr.h]; exact u18) hL3 (fun t ht => hpt t (by omega)) ⟨_, rfl, (hw0.fr hfr).2.1.1, ?_⟩
      rw [hk0]
      refine w_meet0 (d + 2) (δ := leD st b n L lf) (μ := leM mr n c) (hw0.fr hfr).2.1 hd hk0lt (fun M2 v g3 g4 => ⟨v, rfl, ?_⟩)
      exact outer (n ^ (L + 1)) 0 (by omega) M2 (hfr.tr g3 (by simp)) (by rw [Nat.zero_mul]; exact g4) none none none none none rfl rfl rfl rfl rfl
    | succ k ih =>
      intro j hj M' hfr hd hpt
      obtain ⟨r1, r2⟩ := hrr hfr
      refine vX10_weaveLetters_87 _ _ _ _ _ _ _ _ ⟨fun c => absurd c (nI_nlt (by omega) (by omega)), fun _ => ⟨(hw0.fr hfr).1, w + 18, by rw [hfr.r]; exact w11, r1.1, ?_⟩⟩
      rw [hW11 hfr, nI_l (show j < 2 ^ 31 by omega)]
      have hb1' : b ^ 1 = b := Nat.pow_one b
      refine w_readsAll (d + 2) hb (mn := 1) (x := j) (y := 0) (z := 0) (by omega) r1 (by rw [hb1']; exact r2) (by rw [hb1']; exact hrm) hn0 (by rw [hb1']; exact hc) (by omega) (by omega) (by omega) ⟨_, rfl, by rw [hfr.h, u18], by rw [hfr.h, u18]; exact vp_in_nI (show j < 4 by omega) (by omega), ?_⟩
      rintro M2 rfl
      have hread : rn st 0 (rw_ b 1 j 0 0 (if b = 2 then 63 else 40)) = tp0 st b j := by
        have hj3 : j ≤ 3 := by omega
        have z : ∀ e, rn st 0 (rw_ b 1 j 0 0 (e + 2)) = tp0 st b j := by
          intro e
          induction e with
          | zero =>
            show st (st 0 (j / b ^ 1 % b)) (j / b ^ 0 % b) = st (st 0 (j / b)) (j % b)
            rw [Nat.pow_one, Nat.pow_zero, Nat.div_one, Nat.mod_eq_of_lt (show j / b < b from by
              have : j / b ≤ j / 2 := Nat.div_le_div_left hb1 (by omega)
              omega)]
          | succ e ihe =>
            show rn st (st 0 (j / b ^ (e + 2) % b)) (rw_ b 1 j 0 0 (e + 2)) = _
            have e0 : j / b ^ (e + 2) = 0 := Nat.div_eq_of_lt (by
              have h1 : b ^ 2 ≤ b ^ (e + 2) := Nat.pow_le_pow_right (by omega) (by omega)
              have h2 : 2 ^ 2 ≤ b ^ 2 := Nat.pow_le_pow_left hb1 2
              omega)
            rw [e0, Nat.zero_mod, h00]
            exact ihe
        rcases hb with e | e
        · rw [if_pos e]; exact z 61
        · rw [if_neg (by omega)]; exact z 38
      rw [hread, nI_clamp (by omega), nI_1]
      have g1 : Fr M' (x_si M' (w + 18) j (nI (tp0 st b j))) [w + 18] := Fr.rf.si (by simp)
      refine ih (j + 1) (by omega) _ (hfr.si (by simp)) (hd.fr g1 (by simp) (by simp) (by simp)) (fun t ht => ?_)
      by_cases et : t = j
      · rw [et, xi_eq]
      · rw [xi_nk et]; exact hpt t (by omega)
  -- how many names
  have first : ∀ (k i : Nat), i + k = 8 → LX10_weaveLetters_6 G (d + 4) 0 0 w s r q (nI (sumT tf i)) (nI i) M Q := by
    intro k
    induction k with
    | zero =>
      intro i hi
      have e : i = 8 := by omega
      subst e
      refine vX10_weaveLetters_6 _ _ _ _ _ _ ⟨fun _ => ⟨hs1, ?_⟩, fun c => absurd (nI_le (Nat.le_refl 8) (by omega)) c⟩
      have e1 : nI (sumT tf 8) - 1 = nI (sumT tf 8 - 1) := pk_sub (b := 1) hT0
      rw [e1, i2]
      refine w_max (d + 3) (by omega) (by omega) ⟨_, rfl, w1, w + 18, w11, by rw [u18]; exact k18, ?_⟩
      rw [u18, ← hL]
      show Call G (d + 4) 0 0 mJ9_min_7cf53 [.int (nI L), .int (nI 4 - 1)] M _
      rw [show nI 4 - 1 = nI 3 from by decide]
      refine w_min (d + 3) (by omega) (by omega) ⟨_, rfl, hs1, w1, ?_⟩
      rw [Nat.min_eq_left hL3, i3]
      refine w_fan (d + 2) w1 e11 hal ⟨_, rfl, w1, w + 1, w5, hr.1, ?_⟩
      rw [hri.1, nI_1, hfg]
      refine w_power (d + 3) (by omega) ⟨_, rfl, w2.1, ?_⟩
      exact w_open (d + 1) w2 hroom (fun M1 g1 g2 => ⟨rfl, tuple (L + 1) 0 (by omega) M1 (g1.wk (by simp)) g2 (fun t ht => absurd ht (Nat.not_lt_zero t))⟩)
    | succ k ih =>
      intro i hi
      refine vX10_weaveLetters_6 _ _ _ _ _ _ ⟨fun c => absurd c (nI_ge (a := i) (b := 8) (by omega) (by omega)), fun _ => ⟨hs1, s + 1, hs2, by rw [hs3], by rw [hs3]; exact vp_in_nI (show i < 8 by omega) (by omega), ?_⟩⟩
      rw [nI_clamp (by omega), htf i (by omega), nI_add, nI_1]
      exact ih (i + 1) (by omega)
  exact eX10_weaveLetters w s r q (first 8 0 (by omega))
end LettersC
