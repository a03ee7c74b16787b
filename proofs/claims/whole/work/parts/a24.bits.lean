/-! ===== sets of names as bits, and what is seen of rows of digits ===== -/
section Bits
def bt (x n : Nat) : Nat := x / 2 ^ n % 2
theorem bt_le {x n : Nat} : bt x n ≤ 1 := by have := Nat.mod_lt (x / 2 ^ n) (show 0 < 2 by omega); unfold bt; omega
theorem sb_s : ∀ n, n < 32 → ((nI n &&& 31).toBitVec.smod 32).toNat = n := by decide +kernel
theorem sb {x n : Nat} (hx : x < 2 ^ 31) (hn : n < 32) : (nI x >>> (nI n &&& 31)) &&& 1 = nI (bt x n) := by
  rw [pk_shrN hx _ n (sb_s n hn), pk_andN (Nat.lt_of_le_of_lt (Nat.div_le_self _ _) (Nat.lt_trans hx (by decide))) 1 (by decide)]
  rfl
theorem sb0 {x n : Nat} : nI (bt x n) = 0 ↔ bt x n = 0 := by
  have := bt_le (x := x) (n := n)
  exact (nI_eq (a := bt x n) (b := 0) (by omega) (by omega))
theorem sb1 {x n : Nat} : nI (bt x n) = 1 ↔ bt x n = 1 := by
  have := bt_le (x := x) (n := n)
  exact (nI_eq (a := bt x n) (b := 1) (by omega) (by omega))
theorem sl_1 {n : Nat} (hn : n < 31) : (1 : Int32) <<< (nI n &&& 31) = nI (2 ^ n) := by
  have h : (1 : Nat) * 2 ^ n < 2 ^ 32 := by rw [Nat.one_mul]; exact Nat.pow_lt_pow_right (by omega) (by omega)
  have := pk_shlN (n := 1) (nI n &&& 31) n (sb_s n (by omega)) h
  rw [Nat.one_mul] at this
  exact this
theorem nI_and {a b : Nat} : nI a &&& nI b = nI (a &&& b) := Int32.toBitVec_inj.mp (BitVec.ofNat_and ..).symm
theorem nI_or {a b : Nat} : nI a ||| nI b = nI (a ||| b) := Int32.toBitVec_inj.mp (BitVec.ofNat_or ..).symm
theorem tb_bt {x n : Nat} : x.testBit n = decide (bt x n = 1) := by
  rw [Nat.testBit_eq_decide_div_mod_eq]; rfl
theorem bt_or {a b n : Nat} : bt (a ||| b) n = 1 ↔ bt a n = 1 ∨ bt b n = 1 := by
  have h := Nat.testBit_or a b n
  rw [tb_bt, tb_bt, tb_bt] at h
  by_cases h1 : bt a n = 1 <;> by_cases h2 : bt b n = 1 <;> simp_all
theorem or_256 {a b : Nat} (ha : a < 256) (hb : b < 256) : a ||| b < 256 := Nat.or_lt_two_pow (n := 8) ha hb
/-- how many of the j highest bits (of 8) stand -/
def ab (x : Nat) : Nat → Nat
  | 0 => 0
  | j + 1 => ab x j + bt x (7 - j)
def pc (x : Nat) : Nat := ab x 8
def fn (b x : Nat) : Nat := b ^ pc x
theorem pc_le (x : Nat) : pc x ≤ 8 := by
  have h7 := bt_le (x := x) (n := 7)
  have h6 := bt_le (x := x) (n := 6)
  have h5 := bt_le (x := x) (n := 5)
  have h4 := bt_le (x := x) (n := 4)
  have h3 := bt_le (x := x) (n := 3)
  have h2 := bt_le (x := x) (n := 2)
  have h1 := bt_le (x := x) (n := 1)
  have h0 := bt_le (x := x) (n := 0)
  show 0 + bt x 7 + bt x 6 + bt x 5 + bt x 4 + bt x 3 + bt x 2 + bt x 1 + bt x 0 ≤ 8
  omega
theorem fn_pos {b x : Nat} (hb : 0 < b) : 0 < fn b x := Nat.pow_pos hb
theorem ab_le {x : Nat} : ∀ (e j : Nat), ab x j ≤ ab x (j + e)
  | 0, j => Nat.le_refl _
  | e + 1, j => Nat.le_trans (ab_le e j) (Nat.le_add_right _ _)
theorem ab_mono {x y : Nat} (h : ∀ n, n < 8 → bt x n = 1 → bt y n = 1) : ∀ j, j ≤ 8 → ab x j ≤ ab y j
  | 0, _ => Nat.le_refl 0
  | j + 1, hj => by
    have ih := ab_mono h j (by omega)
    have h1 := bt_le (x := x) (n := 7 - j)
    have h2 := h (7 - j) (by omega)
    show ab x j + bt x (7 - j) ≤ ab y j + bt y (7 - j)
    omega
theorem fn_mono {b x y : Nat} (hb : 0 < b) (h : ∀ n, n < 8 → bt x n = 1 → bt y n = 1) : fn b x ≤ fn b y := Nat.pow_le_pow_right hb (ab_mono h 8 (Nat.le_refl 8))
theorem fn_le27 {b x : Nat} (hb : b ≤ 3) (hx : pc x ≤ 3) (h0 : 0 < b) : fn b x ≤ 27 := by
  have h1 : b ^ pc x ≤ b ^ 3 := Nat.pow_le_pow_right h0 hx
  have h2 : b ^ 3 ≤ 3 ^ 3 := Nat.pow_le_pow_left hb 3
  unfold fn
  omega
theorem fn_le6561 {b x : Nat} (hb : b ≤ 3) (h0 : 0 < b) : fn b x ≤ 6561 := by
  have h1 : b ^ pc x ≤ b ^ 8 := Nat.pow_le_pow_right h0 (pc_le x)
  have h2 : b ^ 8 ≤ 3 ^ 8 := Nat.pow_le_pow_left hb 8
  unfold fn
  omega
/-- what one who knows the names sm sees of the digits k of the names al -/
def vs (b al sm k : Nat) : Nat → Nat
  | 0 => 0
  | j + 1 => if bt sm (7 - j) = 1 then vs b al sm k j + k / b ^ ab al j % b * b ^ ab sm j else vs b al sm k j
def vw (b al sm k : Nat) : Nat := vs b al sm k 8
theorem vs_lt {b al sm k : Nat} (hb : 0 < b) : ∀ j, vs b al sm k j < b ^ ab sm j
  | 0 => Nat.one_pos
  | j + 1 => by
    have ih := vs_lt (al := al) (sm := sm) (k := k) hb j
    have hd : k / b ^ ab al j % b < b := Nat.mod_lt _ hb
    show (if bt sm (7 - j) = 1 then vs b al sm k j + k / b ^ ab al j % b * b ^ ab sm j else vs b al sm k j) < b ^ (ab sm j + bt sm (7 - j))
    by_cases h : bt sm (7 - j) = 1
    · rw [if_pos h, h, Nat.pow_succ]
      have h1 : (k / b ^ ab al j % b + 1) * b ^ ab sm j ≤ b * b ^ ab sm j := Nat.mul_le_mul_right _ hd
      rw [Nat.succ_mul] at h1
      rw [Nat.mul_comm _ b]
      omega
    · rw [if_neg h]
      exact Nat.lt_of_lt_of_le ih (Nat.pow_le_pow_right hb (Nat.le_add_right _ _))
theorem vw_lt {b al sm k : Nat} (hb : 0 < b) : vw b al sm k < fn b sm := vs_lt hb 8
/-- ints that may be below nought -/
def iI (z : Int) : Int32 := Int32.ofInt z
theorem iI_n (n : Nat) : nI n = iI (n : Int) := rfl
theorem iI_add (a b : Int) : iI a + iI b = iI (a + b) := (Int32.ofInt_add a b).symm
theorem iI_mul (a b : Int) : iI a * iI b = iI (a * b) := (Int32.ofInt_mul a b).symm
theorem iI_sub (a b : Int) : iI a - iI b = iI (a - b) := (Int32.ofInt_sub a b).symm
theorem iI_neg (a : Int) : - iI a = iI (-a) := (Int32.ofInt_neg a).symm
theorem iI_toInt {a : Int} (h1 : -2147483648 ≤ a) (h2 : a < 2147483648) : (iI a).toInt = a := Int32.toInt_ofInt_of_le (by simpa using h1) (by simpa using h2)
theorem iI_lt {a b : Int} (h1 : -2147483648 ≤ a) (h2 : a < 2147483648) (h3 : -2147483648 ≤ b) (h4 : b < 2147483648) : iI a < iI b ↔ a < b := by
  rw [Int32.lt_iff_toInt_lt, iI_toInt h1 h2, iI_toInt h3 h4]
theorem iI_le {a b : Int} (h1 : -2147483648 ≤ a) (h2 : a < 2147483648) (h3 : -2147483648 ≤ b) (h4 : b < 2147483648) : iI a ≤ iI b ↔ a ≤ b := by
  rw [Int32.le_iff_toInt_le, iI_toInt h1 h2, iI_toInt h3 h4]
theorem iI_eq {a b : Int} (h1 : -2147483648 ≤ a) (h2 : a < 2147483648) (h3 : -2147483648 ≤ b) (h4 : b < 2147483648) : iI a = iI b ↔ a = b :=
  ⟨fun h => by have := congrArg Int32.toInt h; rwa [iI_toInt h1 h2, iI_toInt h3 h4] at this, fun h => by rw [h]⟩
/-- what the digits k of the names al add, each as often as tf tells -/
def ls (b al : Nat) (tf : Nat → Int) (k : Nat) : Nat → Int
  | 0 => 0
  | j + 1 => if bt al (7 - j) = 1 then ls b al tf k j + tf (7 - j) * ((k / b ^ ab al j % b : Nat) : Int) else ls b al tf k j
def ld (b al : Nat) (tf : Nat → Int) (k : Nat) : Int := ls b al tf k 8
def pcX (a1 : Int32) : Int32 := ((((((((a1 - (((a1.toUInt32 >>> ((1 : Int32).toUInt32 &&& Int32.toUInt32 31)).toInt32) &&& 1431655765)) &&& 858993459) + ((((a1 - (((a1.toUInt32 >>> ((1 : Int32).toUInt32 &&& Int32.toUInt32 31)).toInt32) &&& 1431655765)).toUInt32 >>> ((2 : Int32).toUInt32 &&& Int32.toUInt32 31)).toInt32) &&& 858993459)) + (((((a1 - (((a1.toUInt32 >>> ((1 : Int32).toUInt32 &&& Int32.toUInt32 31)).toInt32) &&& 1431655765)) &&& 858993459) + ((((a1 - (((a1.toUInt32 >>> ((1 : Int32).toUInt32 &&& Int32.toUInt32 31)).toInt32) &&& 1431655765)).toUInt32 >>> ((2 : Int32).toUInt32 &&& Int32.toUInt32 31)).toInt32) &&& 858993459)).toUInt32 >>> ((4 : Int32).toUInt32 &&& Int32.toUInt32 31)).toInt32)) &&& 252645135) + (((((((a1 - (((a1.toUInt32 >>> ((1 : Int32).toUInt32 &&& Int32.toUInt32 31)).toInt32) &&& 1431655765)) &&& 858993459) + ((((a1 - (((a1.toUInt32 >>> ((1 : Int32).toUInt32 &&& Int32.toUInt32 31)).toInt32) &&& 1431655765)).toUInt32 >>> ((2 : Int32).toUInt32 &&& Int32.toUInt32 31)).toInt32) &&& 858993459)) + (((((a1 - (((a1.toUInt32 >>> ((1 : Int32).toUInt32 &&& Int32.toUInt32 31)).toInt32) &&& 1431655765)) &&& 858993459) + ((((a1 - (((a1.toUInt32 >>> ((1 : Int32).toUInt32 &&& Int32.toUInt32 31)).toInt32) &&& 1431655765)).toUInt32 >>> ((2 : Int32).toUInt32 &&& Int32.toUInt32 31)).toInt32) &&& 858993459)).toUInt32 >>> ((4 : Int32).toUInt32 &&& Int32.toUInt32 31)).toInt32)) &&& 252645135).toUInt32 >>> ((8 : Int32).toUInt32 &&& Int32.toUInt32 31)).toInt32)) + ((((((((a1 - (((a1.toUInt32 >>> ((1 : Int32).toUInt32 &&& Int32.toUInt32 31)).toInt32) &&& 1431655765)) &&& 858993459) + ((((a1 - (((a1.toUInt32 >>> ((1 : Int32).toUInt32 &&& Int32.toUInt32 31)).toInt32) &&& 1431655765)).toUInt32 >>> ((2 : Int32).toUInt32 &&& Int32.toUInt32 31)).toInt32) &&& 858993459)) + (((((a1 - (((a1.toUInt32 >>> ((1 : Int32).toUInt32 &&& Int32.toUInt32 31)).toInt32) &&& 1431655765)) &&& 858993459) + ((((a1 - (((a1.toUInt32 >>> ((1 : Int32).toUInt32 &&& Int32.toUInt32 31)).toInt32) &&& 1431655765)).toUInt32 >>> ((2 : Int32).toUInt32 &&& Int32.toUInt32 31)).toInt32) &&& 858993459)).toUInt32 >>> ((4 : Int32).toUInt32 &&& Int32.toUInt32 31)).toInt32)) &&& 252645135) + (((((((a1 - (((a1.toUInt32 >>> ((1 : Int32).toUInt32 &&& Int32.toUInt32 31)).toInt32) &&& 1431655765)) &&& 858993459) + ((((a1 - (((a1.toUInt32 >>> ((1 : Int32).toUInt32 &&& Int32.toUInt32 31)).toInt32) &&& 1431655765)).toUInt32 >>> ((2 : Int32).toUInt32 &&& Int32.toUInt32 31)).toInt32) &&& 858993459)) + (((((a1 - (((a1.toUInt32 >>> ((1 : Int32).toUInt32 &&& Int32.toUInt32 31)).toInt32) &&& 1431655765)) &&& 858993459) + ((((a1 - (((a1.toUInt32 >>> ((1 : Int32).toUInt32 &&& Int32.toUInt32 31)).toInt32) &&& 1431655765)).toUInt32 >>> ((2 : Int32).toUInt32 &&& Int32.toUInt32 31)).toInt32) &&& 858993459)).toUInt32 >>> ((4 : Int32).toUInt32 &&& Int32.toUInt32 31)).toInt32)) &&& 252645135).toUInt32 >>> ((8 : Int32).toUInt32 &&& Int32.toUInt32 31)).toInt32)).toUInt32 >>> ((16 : Int32).toUInt32 &&& Int32.toUInt32 31)).toInt32)) &&& 63)
theorem pcX_eq : ∀ x, x < 256 → pcX (nI x) = nI (pc x) := by decide +kernel
variable {G : GG} {M : Mem} {w b : Nat} {Q : Option Value → Mem → Prop}
theorem w_bitCount (d : Nat) {x : Nat} (hx : x < 256) (hQ : Q (some (.int (nI (pc x)))) M) : Call G (d + 1) 0 0 mJ6_bitCount_0f7a4 [.int (nI x)] M Q := by
  refine eJ6_bitCount_0f7a4 (nI x) ?_
  have e := pcX_eq x hx
  unfold pcX at e
  rw [e]
  exact hQ
theorem w_power (d : Nat) {b t : Nat} (ht : t ≤ 8) (hQ : Q (some (.int (nI (b ^ t)))) M) : Call G (d + 1) 0 0 mX10_power [.int (nI b), .int (nI t)] M Q := by
  refine eX10_power _ _ ?_
  have key : ∀ k i, i + k = t → LX10_power_4 G d 0 0 (nI b) (nI t) (nI (b ^ i)) (nI i) M Q := by
    intro k
    induction k with
    | zero =>
      intro i hi
      have e : i = t := by omega
      subst e
      exact vX10_power_4 _ _ _ _ ⟨fun _ => hQ, fun c => absurd (nI_le (Nat.le_refl i) (by omega)) c⟩
    | succ k ih =>
      intro i hi
      refine vX10_power_4 _ _ _ _ ⟨fun c => absurd c (nI_ge (by omega) (by omega)), fun _ => ⟨fun c => absurd c (nI_ge (a := i) (b := 8) (by omega) (by omega)), fun _ => ?_⟩⟩
      rw [pk_mul, ← Nat.pow_succ, nI_1]
      exact ih (i + 1) (by omega)
  exact key t 0 (by omega)
theorem w_fan (d : Nat) (hw : (x_h M w).1 = 26) (e : x_i M w 11 = nI b) {x : Nat} (hx : x < 256) (hQ : Q (some (.int (nI (fn b x)))) M) : Call G (d + 2) 0 0 mX10_fan [.ref w, .int (nI x)] M Q := by
  refine eX10_fan w (nI x) ⟨hw, ?_⟩
  refine w_bitCount d hx ?_
  refine ⟨_, rfl, ?_⟩
  rw [e]
  exact w_power d (pc_le x) ⟨_, rfl, hQ⟩
theorem w_view (d : Nat) (hw : (x_h M w).1 = 26) (e : x_i M w 11 = nI b) (hb : 1 < b) (hb3 : b ≤ 3) {al sm k : Nat} (ha : al < 256) (hs : sm < 256) (hk : k < 2 ^ 30) (hsub : ∀ n, n < 8 → bt sm n = 1 → bt al n = 1) (hQ : Q (some (.int (nI (vw b al sm k)))) M) : Call G (d + 1) 0 0 mX10_view [.ref w, .int (nI k), .int (nI al), .int (nI sm)] M Q := by
  refine eX10_view w _ _ _ ?_
  have e7 : (7 : Int32) = nI 8 + (-1) := by decide
  have key : ∀ r j, j + r = 8 → LX10_view_13 G d 0 0 w (nI k) (nI al) (nI sm) (nI (vs b al sm k j)) (nI (b ^ ab sm j)) (nI (k / b ^ ab al j)) (nI r + (-1)) M Q := by
    intro r
    induction r with
    | zero =>
      intro j hj
      have ej : j = 8 := by omega
      subst ej
      refine vX10_view_13 _ _ _ _ _ _ _ _ ⟨fun _ => hQ, fun c => absurd (by decide) c⟩
    | succ r ih =>
      intro j hj
      have er : 7 - j = r := by omega
      have hbb : x_i M w 11 = nI b := e
      have hk2 : k / b ^ ab al j < 2 ^ 31 := Nat.lt_of_le_of_lt (Nat.div_le_self _ _) (by omega)
      have hb0 : ¬ x_i M w 11 = 0 := by rw [e]; exact nI_ne0 (by omega) (by omega)
      rw [pk_m1]
      refine vX10_view_13 _ _ _ _ _ _ _ _ ⟨fun c => absurd c (nI_pos (by omega)), fun _ => ⟨hw, fun c => ?_, fun _ => ?_⟩⟩
      · rw [e] at c
        exact absurd c (nI_ge (a := 1) (b := b) hb (by omega))
      · have ih2 := ih (j + 1) (by omega)
        have v1 : vs b al sm k (j + 1) = if bt sm (7 - j) = 1 then vs b al sm k j + k / b ^ ab al j % b * b ^ ab sm j else vs b al sm k j := rfl
        have v2 : ab sm (j + 1) = ab sm j + bt sm (7 - j) := rfl
        have v3 : ab al (j + 1) = ab al j + bt al (7 - j) := rfl
        rw [er] at v1 v2 v3
        have l1 := bt_le (x := al) (n := r)
        have l2 := bt_le (x := sm) (n := r)
        have hs3 := hsub r (by omega)
        rw [sb (by omega) (by omega), sb (by omega) (by omega), sb0, sb0, e, pk_rem hk2 (by omega) (by omega), pk_div hk2 (by omega) (by omega), pk_mul, pk_mul, nI_add]
        rw [e] at hb0
        refine ⟨fun c => ?_, fun c => ⟨fun c2 => ⟨hb0, ?_⟩, fun c2 => ⟨hb0, hb0, ?_⟩⟩⟩
        · have c2 : bt sm r = 0 := by omega
          rw [v1, v2, v3, if_neg (by omega), c, c2] at ih2
          exact ih2
        · have c3 : bt al r = 1 := by omega
          rw [v1, v2, v3, if_neg (by omega), c3, c2, Nat.pow_succ, ← Nat.div_div_eq_div_mul] at ih2
          exact ih2
        · have c3 : bt al r = 1 := by omega
          have c4 : bt sm r = 1 := by omega
          rw [v1, v2, v3, if_pos c4, c3, c4, Nat.pow_succ, Nat.pow_succ, ← Nat.div_div_eq_div_mul] at ih2
          exact ih2
  have := key 8 0 (by omega)
  rw [← e7] at this
  have e1 : k / b ^ ab al 0 = k := Nat.div_one k
  rw [e1] at this
  exact this
theorem w_fillViews (d : Nat) (hw : (x_h M w).1 = 26) (e : x_i M w 11 = nI b) (hb : 1 < b) (hb3 : b ≤ 3) {v al sm : Nat} (hv : x_h M v = (1, 27)) (hvw : v ≠ w) (ha : al < 256) (hs : sm < 256) (hf : fn b al ≤ 27) (hsub : ∀ n, n < 8 → bt sm n = 1 → bt al n = 1) (hQ : ∀ M', Fr M M' [v] → (∀ k, k < fn b al → x_i M' v k = nI (vw b al sm k)) → Q none M') : Call G (d + 3) 0 0 mX10_fillViews [.ref w, .ref v, .int (nI al), .int (nI sm)] M Q := by
  refine eX10_fillViews w v _ _ ⟨hw, w_fan d hw e ha ⟨_, rfl, ?_⟩⟩
  have key : ∀ r i, i + r = fn b al → ∀ M', Fr M M' [v] → (∀ k, k < i → x_i M' v k = nI (vw b al sm k)) → LX10_fillViews_10 G (d + 2) 0 0 w v (nI al) (nI sm) (nI (fn b al)) (nI i) M' Q := by
    intro r
    induction r with
    | zero =>
      intro i hi M' hfr hc
      have ei : i = fn b al := by omega
      rw [ei]
      rw [ei] at hc
      exact vX10_fillViews_10 _ _ _ _ _ _ ⟨fun _ => hQ M' hfr hc, fun c => absurd (nI_le (Nat.le_refl _) (by omega)) c⟩
    | succ r ih =>
      intro i hi M' hfr hc
      refine vX10_fillViews_10 _ _ _ _ _ _ ⟨fun c => absurd c (nI_ge (by omega) (by omega)), fun _ => ⟨by rw [hfr.h, hv]; exact k18, fun c => ?_, fun _ => ⟨by rw [hfr.h]; exact hw, ?_⟩⟩⟩
      · rw [hfr.h, hv] at c
        exact absurd c (nI_ge (a := i) (b := 27) (by omega) (by omega))
      · refine w_view (d + 1) (by rw [hfr.h]; exact hw) (by rw [hfr.i (by simp; omega)]; exact e) hb hb3 ha hs (by omega) hsub ⟨_, rfl, by rw [hfr.h, hv], by rw [hfr.h, hv]; exact vp_in_nI (show i < 27 by omega) (by omega), ?_⟩
        rintro M1 rfl
        rw [nI_clamp (by omega), nI_1]
        refine ih (i + 1) (by omega) _ (hfr.si (by simp)) (fun k hk => ?_)
        by_cases ek : k = i
        · rw [ek, xi_eq]
        · rw [xi_nk ek]; exact hc k (by omega)
  exact key (fn b al) 0 (Nat.zero_add _) M Fr.rf (fun k hk => absurd hk (Nat.not_lt_zero k))
theorem w_load (d : Nat) (hw : (x_h M w).1 = 26) (e : x_i M w 11 = nI b) (hb : 1 < b) (hb3 : b ≤ 3) {al k p : Nat} {tf : Nat → Int} (ha : al < 256) (hk : k < 2 ^ 30) (hp : x_h M p = (1, 8)) (ht : ∀ n, n < 8 → x_i M p n = iI (tf n)) (hQ : Q (some (.int (iI (ld b al tf k)))) M) : Call G (d + 3) 0 0 mX10_load [.ref w, .int (nI k), .int (nI al), .ref p] M Q := by
  refine eX10_load w _ _ p ?_
  have e7 : (7 : Int32) = nI 8 + (-1) := by decide
  have key : ∀ r j, j + r = 8 → LX10_load_10 G (d + 2) 0 0 w (nI k) (nI al) p (iI (ls b al tf k j)) (nI (k / b ^ ab al j)) (nI r + (-1)) M Q := by
    intro r
    induction r with
    | zero =>
      intro j hj
      have ej : j = 8 := by omega
      subst ej
      refine vX10_load_10 _ _ _ _ _ _ _ ⟨fun _ => hQ, fun c => absurd (by decide) c⟩
    | succ r ih =>
      intro j hj
      have er : 7 - j = r := by omega
      have hk2 : k / b ^ ab al j < 2 ^ 31 := Nat.lt_of_le_of_lt (Nat.div_le_self _ _) (by omega)
      have hb0 : ¬ x_i M w 11 = 0 := by rw [e]; exact nI_ne0 (by omega) (by omega)
      rw [pk_m1]
      refine vX10_load_10 _ _ _ _ _ _ _ ⟨fun c => absurd c (nI_pos (by omega)), fun _ => ⟨hw, fun c => ?_, fun _ => ?_⟩⟩
      · rw [e] at c
        exact absurd c (nI_ge (a := 1) (b := b) hb (by omega))
      · have ih2 := ih (j + 1) (by omega)
        have v1 : ls b al tf k (j + 1) = if bt al (7 - j) = 1 then ls b al tf k j + tf (7 - j) * ((k / b ^ ab al j % b : Nat) : Int) else ls b al tf k j := rfl
        have v3 : ab al (j + 1) = ab al j + bt al (7 - j) := rfl
        rw [er] at v1 v3
        have l1 := bt_le (x := al) (n := r)
        rw [sb (by omega) (by omega), sb0]
        refine ⟨fun c => ?_, fun c => ?_⟩
        · rw [v1, v3, if_neg (by omega), c] at ih2
          exact ih2
        · have c3 : bt al r = 1 := by omega
          rw [v1, v3, if_pos c3, c3, Nat.pow_succ, ← Nat.div_div_eq_div_mul] at ih2
          refine w_at d hp (show r < 8 by omega) (by omega) ⟨_, rfl, hw, hb0, hb0, ?_⟩
          rw [e, pk_rem hk2 (by omega) (by omega), pk_div hk2 (by omega) (by omega), ht r (by omega), iI_n (k / b ^ ab al j % b), iI_mul, iI_add]
          exact ih2
  have := key 8 0 (by omega)
  rw [← e7] at this
  have e1 : k / b ^ ab al 0 = k := Nat.div_one k
  rw [e1] at this
  exact this
end Bits
